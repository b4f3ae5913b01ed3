theorem dX0_init_0 : decode cX0_init 0 = .ok (.aload_n 0, 1) := by decide +kernel
theorem dX0_init_1 : decode cX0_init 1 = .ok (.invokespecial 3, 3) := by decide +kernel
theorem dX0_init_4 : decode cX0_init 4 = .ok (.aload_n 0, 1) := by decide +kernel
theorem dX0_init_5 : decode cX0_init 5 = .ok (.iconst 4, 1) := by decide +kernel
theorem dX0_init_6 : decode cX0_init 6 = .ok (.newarray .int, 2) := by decide +kernel
theorem dX0_init_8 : decode cX0_init 8 = .ok (.putfield 9, 3) := by decide +kernel
theorem dX0_init_11 : decode cX0_init 11 = .ok (.return_, 1) := by decide +kernel
theorem dX0_take_0 : decode cX0_take 0 = .ok (.aload_n 0, 1) := by decide +kernel
theorem dX0_take_1 : decode cX0_take 1 = .ok (.iload_n 1, 1) := by decide +kernel
theorem dX0_take_2 : decode cX0_take 2 = .ok (.putfield 15, 3) := by decide +kernel
theorem dX0_take_5 : decode cX0_take 5 = .ok (.aload_n 0, 1) := by decide +kernel
theorem dX0_take_6 : decode cX0_take 6 = .ok (.getfield 9, 3) := by decide +kernel
theorem dX0_take_9 : decode cX0_take 9 = .ok (.iconst 0, 1) := by decide +kernel
theorem dX0_take_10 : decode cX0_take 10 = .ok (.iload_n 2, 1) := by decide +kernel
theorem dX0_take_11 : decode cX0_take 11 = .ok (.iastore, 1) := by decide +kernel
theorem dX0_take_12 : decode cX0_take 12 = .ok (.aload_n 0, 1) := by decide +kernel
theorem dX0_take_13 : decode cX0_take 13 = .ok (.getfield 9, 3) := by decide +kernel
theorem dX0_take_16 : decode cX0_take 16 = .ok (.iconst 1, 1) := by decide +kernel
theorem dX0_take_17 : decode cX0_take 17 = .ok (.iload_n 3, 1) := by decide +kernel
theorem dX0_take_18 : decode cX0_take 18 = .ok (.iastore, 1) := by decide +kernel
theorem dX0_take_19 : decode cX0_take 19 = .ok (.aload_n 0, 1) := by decide +kernel
theorem dX0_take_20 : decode cX0_take 20 = .ok (.getfield 9, 3) := by decide +kernel
theorem dX0_take_23 : decode cX0_take 23 = .ok (.iconst 2, 1) := by decide +kernel
theorem dX0_take_24 : decode cX0_take 24 = .ok (.iconst 0, 1) := by decide +kernel
theorem dX0_take_25 : decode cX0_take 25 = .ok (.iastore, 1) := by decide +kernel
theorem dX0_take_26 : decode cX0_take 26 = .ok (.aload_n 0, 1) := by decide +kernel
theorem dX0_take_27 : decode cX0_take 27 = .ok (.getfield 9, 3) := by decide +kernel
theorem dX0_take_30 : decode cX0_take 30 = .ok (.iconst 3, 1) := by decide +kernel
theorem dX0_take_31 : decode cX0_take 31 = .ok (.iconst 0, 1) := by decide +kernel
theorem dX0_take_32 : decode cX0_take 32 = .ok (.iastore, 1) := by decide +kernel
theorem dX0_take_33 : decode cX0_take 33 = .ok (.return_, 1) := by decide +kernel
theorem dX0_look_0 : decode cX0_look 0 = .ok (.iload_n 1, 1) := by decide +kernel
theorem dX0_look_1 : decode cX0_look 1 = .ok (.invokestatic 19, 3) := by decide +kernel
theorem dX0_look_4 : decode cX0_look 4 = .ok (.ifCond .eq 16, 3) := by decide +kernel
theorem dX0_look_7 : decode cX0_look 7 = .ok (.aload_n 0, 1) := by decide +kernel
theorem dX0_look_8 : decode cX0_look 8 = .ok (.getfield 9, 3) := by decide +kernel
theorem dX0_look_11 : decode cX0_look 11 = .ok (.iload_n 1, 1) := by decide +kernel
theorem dX0_look_12 : decode cX0_look 12 = .ok (.sipush 200, 3) := by decide +kernel
theorem dX0_look_15 : decode cX0_look 15 = .ok (.isub, 1) := by decide +kernel
theorem dX0_look_16 : decode cX0_look 16 = .ok (.iaload, 1) := by decide +kernel
theorem dX0_look_17 : decode cX0_look 17 = .ok (.goto 4, 3) := by decide +kernel
theorem dX0_look_20 : decode cX0_look 20 = .ok (.iload_n 1, 1) := by decide +kernel
theorem dX0_look_21 : decode cX0_look 21 = .ok (.ireturn, 1) := by decide +kernel
theorem dX0_include_0 : decode cX0_include 0 = .ok (.iload_n 2, 1) := by decide +kernel
theorem dX0_include_1 : decode cX0_include 1 = .ok (.ifCond .lt 11, 3) := by decide +kernel
theorem dX0_include_4 : decode cX0_include 4 = .ok (.iload_n 2, 1) := by decide +kernel
theorem dX0_include_5 : decode cX0_include 5 = .ok (.aload_n 1, 1) := by decide +kernel
theorem dX0_include_6 : decode cX0_include 6 = .ok (.getfield 23, 3) := by decide +kernel
theorem dX0_include_9 : decode cX0_include 9 = .ok (.if_icmp .lt 4, 3) := by decide +kernel
theorem dX0_include_12 : decode cX0_include 12 = .ok (.return_, 1) := by decide +kernel
theorem dX0_include_13 : decode cX0_include 13 = .ok (.aload_n 0, 1) := by decide +kernel
theorem dX0_include_14 : decode cX0_include 14 = .ok (.dup, 1) := by decide +kernel
theorem dX0_include_15 : decode cX0_include 15 = .ok (.getfield 28, 3) := by decide +kernel
theorem dX0_include_18 : decode cX0_include 18 = .ok (.iload_n 2, 1) := by decide +kernel
theorem dX0_include_19 : decode cX0_include 19 = .ok (.invokestatic 32, 3) := by decide +kernel
theorem dX0_include_22 : decode cX0_include 22 = .ok (.aload_n 1, 1) := by decide +kernel
theorem dX0_include_23 : decode cX0_include 23 = .ok (.getfield 36, 3) := by decide +kernel
theorem dX0_include_26 : decode cX0_include 26 = .ok (.iload_n 2, 1) := by decide +kernel
theorem dX0_include_27 : decode cX0_include 27 = .ok (.laload, 1) := by decide +kernel
theorem dX0_include_28 : decode cX0_include 28 = .ok (.lor, 1) := by decide +kernel
theorem dX0_include_29 : decode cX0_include 29 = .ok (.lor, 1) := by decide +kernel
theorem dX0_include_30 : decode cX0_include 30 = .ok (.putfield 28, 3) := by decide +kernel
theorem dX0_include_33 : decode cX0_include 33 = .ok (.aload_n 0, 1) := by decide +kernel
theorem dX0_include_34 : decode cX0_include 34 = .ok (.dup, 1) := by decide +kernel
theorem dX0_include_35 : decode cX0_include 35 = .ok (.getfield 39, 3) := by decide +kernel
theorem dX0_include_38 : decode cX0_include 38 = .ok (.iload_n 2, 1) := by decide +kernel
theorem dX0_include_39 : decode cX0_include 39 = .ok (.invokestatic 42, 3) := by decide +kernel
theorem dX0_include_42 : decode cX0_include 42 = .ok (.aload_n 1, 1) := by decide +kernel
theorem dX0_include_43 : decode cX0_include 43 = .ok (.getfield 45, 3) := by decide +kernel
theorem dX0_include_46 : decode cX0_include 46 = .ok (.iload_n 2, 1) := by decide +kernel
theorem dX0_include_47 : decode cX0_include 47 = .ok (.laload, 1) := by decide +kernel
theorem dX0_include_48 : decode cX0_include 48 = .ok (.lor, 1) := by decide +kernel
theorem dX0_include_49 : decode cX0_include 49 = .ok (.lor, 1) := by decide +kernel
theorem dX0_include_50 : decode cX0_include 50 = .ok (.putfield 39, 3) := by decide +kernel
theorem dX0_include_53 : decode cX0_include 53 = .ok (.return_, 1) := by decide +kernel
theorem dX1_init_0 : decode cX1_init 0 = .ok (.aload_n 0, 1) := by decide +kernel
theorem dX1_init_1 : decode cX1_init 1 = .ok (.invokespecial 3, 3) := by decide +kernel
theorem dX1_init_4 : decode cX1_init 4 = .ok (.aload_n 0, 1) := by decide +kernel
theorem dX1_init_5 : decode cX1_init 5 = .ok (.iload_n 1, 1) := by decide +kernel
theorem dX1_init_6 : decode cX1_init 6 = .ok (.iconst 1, 1) := by decide +kernel
theorem dX1_init_7 : decode cX1_init 7 = .ok (.if_icmp .ge 7, 3) := by decide +kernel
theorem dX1_init_10 : decode cX1_init 10 = .ok (.iconst 1, 1) := by decide +kernel
theorem dX1_init_11 : decode cX1_init 11 = .ok (.goto 4, 3) := by decide +kernel
theorem dX1_init_14 : decode cX1_init 14 = .ok (.iload_n 1, 1) := by decide +kernel
theorem dX1_init_15 : decode cX1_init 15 = .ok (.putfield 9, 3) := by decide +kernel
theorem dX1_init_18 : decode cX1_init 18 = .ok (.aload_n 0, 1) := by decide +kernel
theorem dX1_init_19 : decode cX1_init 19 = .ok (.aload_n 0, 1) := by decide +kernel
theorem dX1_init_20 : decode cX1_init 20 = .ok (.getfield 9, 3) := by decide +kernel
theorem dX1_init_23 : decode cX1_init 23 = .ok (.newarray .int, 2) := by decide +kernel
theorem dX1_init_25 : decode cX1_init 25 = .ok (.putfield 15, 3) := by decide +kernel
theorem dX1_init_28 : decode cX1_init 28 = .ok (.aload_n 0, 1) := by decide +kernel
theorem dX1_init_29 : decode cX1_init 29 = .ok (.iconst 4, 1) := by decide +kernel
theorem dX1_init_30 : decode cX1_init 30 = .ok (.aload_n 0, 1) := by decide +kernel
theorem dX1_init_31 : decode cX1_init 31 = .ok (.getfield 9, 3) := by decide +kernel
theorem dX1_init_34 : decode cX1_init 34 = .ok (.imul, 1) := by decide +kernel
theorem dX1_init_35 : decode cX1_init 35 = .ok (.newarray .int, 2) := by decide +kernel
theorem dX1_init_37 : decode cX1_init 37 = .ok (.putfield 19, 3) := by decide +kernel
theorem dX1_init_40 : decode cX1_init 40 = .ok (.aload_n 0, 1) := by decide +kernel
theorem dX1_init_41 : decode cX1_init 41 = .ok (.iconst 2, 1) := by decide +kernel
theorem dX1_init_42 : decode cX1_init 42 = .ok (.aload_n 0, 1) := by decide +kernel
theorem dX1_init_43 : decode cX1_init 43 = .ok (.getfield 9, 3) := by decide +kernel
theorem dX1_init_46 : decode cX1_init 46 = .ok (.imul, 1) := by decide +kernel
theorem dX1_init_47 : decode cX1_init 47 = .ok (.newarray .long, 2) := by decide +kernel
theorem dX1_init_49 : decode cX1_init 49 = .ok (.putfield 22, 3) := by decide +kernel
theorem dX1_init_52 : decode cX1_init 52 = .ok (.return_, 1) := by decide +kernel
theorem dX1_add_0 : decode cX1_add 0 = .ok (.aload_n 0, 1) := by decide +kernel
theorem dX1_add_1 : decode cX1_add 1 = .ok (.getfield 26, 3) := by decide +kernel
theorem dX1_add_4 : decode cX1_add 4 = .ok (.aload_n 0, 1) := by decide +kernel
theorem dX1_add_5 : decode cX1_add 5 = .ok (.getfield 9, 3) := by decide +kernel
theorem dX1_add_8 : decode cX1_add 8 = .ok (.if_icmp .lt 4, 3) := by decide +kernel
theorem dX1_add_11 : decode cX1_add 11 = .ok (.return_, 1) := by decide +kernel
theorem dX1_add_12 : decode cX1_add 12 = .ok (.aload_n 0, 1) := by decide +kernel
theorem dX1_add_13 : decode cX1_add 13 = .ok (.getfield 15, 3) := by decide +kernel
theorem dX1_add_16 : decode cX1_add 16 = .ok (.aload_n 0, 1) := by decide +kernel
theorem dX1_add_17 : decode cX1_add 17 = .ok (.getfield 26, 3) := by decide +kernel
theorem dX1_add_20 : decode cX1_add 20 = .ok (.iload_n 1, 1) := by decide +kernel
theorem dX1_add_21 : decode cX1_add 21 = .ok (.iastore, 1) := by decide +kernel
theorem dX1_add_22 : decode cX1_add 22 = .ok (.aload_n 2, 1) := by decide +kernel
theorem dX1_add_23 : decode cX1_add 23 = .ok (.getfield 29, 3) := by decide +kernel
theorem dX1_add_26 : decode cX1_add 26 = .ok (.iconst 0, 1) := by decide +kernel
theorem dX1_add_27 : decode cX1_add 27 = .ok (.aload_n 0, 1) := by decide +kernel
theorem dX1_add_28 : decode cX1_add 28 = .ok (.getfield 19, 3) := by decide +kernel
theorem dX1_add_31 : decode cX1_add 31 = .ok (.iconst 4, 1) := by decide +kernel
theorem dX1_add_32 : decode cX1_add 32 = .ok (.aload_n 0, 1) := by decide +kernel
theorem dX1_add_33 : decode cX1_add 33 = .ok (.getfield 26, 3) := by decide +kernel
theorem dX1_add_36 : decode cX1_add 36 = .ok (.imul, 1) := by decide +kernel
theorem dX1_add_37 : decode cX1_add 37 = .ok (.iconst 4, 1) := by decide +kernel
theorem dX1_add_38 : decode cX1_add 38 = .ok (.invokestatic 34, 3) := by decide +kernel
theorem dX1_add_41 : decode cX1_add 41 = .ok (.aload_n 0, 1) := by decide +kernel
theorem dX1_add_42 : decode cX1_add 42 = .ok (.getfield 22, 3) := by decide +kernel
theorem dX1_add_45 : decode cX1_add 45 = .ok (.iconst 2, 1) := by decide +kernel
theorem dX1_add_46 : decode cX1_add 46 = .ok (.aload_n 0, 1) := by decide +kernel
theorem dX1_add_47 : decode cX1_add 47 = .ok (.getfield 26, 3) := by decide +kernel
theorem dX1_add_50 : decode cX1_add 50 = .ok (.imul, 1) := by decide +kernel
theorem dX1_add_51 : decode cX1_add 51 = .ok (.aload_n 2, 1) := by decide +kernel
theorem dX1_add_52 : decode cX1_add 52 = .ok (.getfield 40, 3) := by decide +kernel
theorem dX1_add_55 : decode cX1_add 55 = .ok (.lastore, 1) := by decide +kernel
theorem dX1_add_56 : decode cX1_add 56 = .ok (.aload_n 0, 1) := by decide +kernel
theorem dX1_add_57 : decode cX1_add 57 = .ok (.getfield 22, 3) := by decide +kernel
theorem dX1_add_60 : decode cX1_add 60 = .ok (.iconst 2, 1) := by decide +kernel
theorem dX1_add_61 : decode cX1_add 61 = .ok (.aload_n 0, 1) := by decide +kernel
theorem dX1_add_62 : decode cX1_add 62 = .ok (.getfield 26, 3) := by decide +kernel
theorem dX1_add_65 : decode cX1_add 65 = .ok (.imul, 1) := by decide +kernel
theorem dX1_add_66 : decode cX1_add 66 = .ok (.iconst 1, 1) := by decide +kernel
theorem dX1_add_67 : decode cX1_add 67 = .ok (.iadd, 1) := by decide +kernel
theorem dX1_add_68 : decode cX1_add 68 = .ok (.aload_n 2, 1) := by decide +kernel
theorem dX1_add_69 : decode cX1_add 69 = .ok (.getfield 44, 3) := by decide +kernel
theorem dX1_add_72 : decode cX1_add 72 = .ok (.lastore, 1) := by decide +kernel
theorem dX1_add_73 : decode cX1_add 73 = .ok (.aload_n 0, 1) := by decide +kernel
theorem dX1_add_74 : decode cX1_add 74 = .ok (.dup, 1) := by decide +kernel
theorem dX1_add_75 : decode cX1_add 75 = .ok (.getfield 26, 3) := by decide +kernel
theorem dX1_add_78 : decode cX1_add 78 = .ok (.iconst 1, 1) := by decide +kernel
theorem dX1_add_79 : decode cX1_add 79 = .ok (.iadd, 1) := by decide +kernel
theorem dX1_add_80 : decode cX1_add 80 = .ok (.putfield 26, 3) := by decide +kernel
theorem dX1_add_83 : decode cX1_add 83 = .ok (.return_, 1) := by decide +kernel
theorem dX1_addAll_0 : decode cX1_addAll 0 = .ok (.aload_n 1, 1) := by decide +kernel
theorem dX1_addAll_1 : decode cX1_addAll 1 = .ok (.getfield 26, 3) := by decide +kernel
theorem dX1_addAll_4 : decode cX1_addAll 4 = .ok (.aload_n 0, 1) := by decide +kernel
theorem dX1_addAll_5 : decode cX1_addAll 5 = .ok (.getfield 9, 3) := by decide +kernel
theorem dX1_addAll_8 : decode cX1_addAll 8 = .ok (.aload_n 0, 1) := by decide +kernel
theorem dX1_addAll_9 : decode cX1_addAll 9 = .ok (.getfield 26, 3) := by decide +kernel
theorem dX1_addAll_12 : decode cX1_addAll 12 = .ok (.isub, 1) := by decide +kernel
theorem dX1_addAll_13 : decode cX1_addAll 13 = .ok (.invokestatic 47, 3) := by decide +kernel
theorem dX1_addAll_16 : decode cX1_addAll 16 = .ok (.istore_n 2, 1) := by decide +kernel
theorem dX1_addAll_17 : decode cX1_addAll 17 = .ok (.iload_n 2, 1) := by decide +kernel
theorem dX1_addAll_18 : decode cX1_addAll 18 = .ok (.ifCond .gt 4, 3) := by decide +kernel
theorem dX1_addAll_21 : decode cX1_addAll 21 = .ok (.return_, 1) := by decide +kernel
theorem dX1_addAll_22 : decode cX1_addAll 22 = .ok (.aload_n 1, 1) := by decide +kernel
theorem dX1_addAll_23 : decode cX1_addAll 23 = .ok (.getfield 15, 3) := by decide +kernel
theorem dX1_addAll_26 : decode cX1_addAll 26 = .ok (.iconst 0, 1) := by decide +kernel
theorem dX1_addAll_27 : decode cX1_addAll 27 = .ok (.aload_n 0, 1) := by decide +kernel
theorem dX1_addAll_28 : decode cX1_addAll 28 = .ok (.getfield 15, 3) := by decide +kernel
theorem dX1_addAll_31 : decode cX1_addAll 31 = .ok (.aload_n 0, 1) := by decide +kernel
theorem dX1_addAll_32 : decode cX1_addAll 32 = .ok (.getfield 26, 3) := by decide +kernel
theorem dX1_addAll_35 : decode cX1_addAll 35 = .ok (.iload_n 2, 1) := by decide +kernel
theorem dX1_addAll_36 : decode cX1_addAll 36 = .ok (.invokestatic 34, 3) := by decide +kernel
theorem dX1_addAll_39 : decode cX1_addAll 39 = .ok (.aload_n 1, 1) := by decide +kernel
theorem dX1_addAll_40 : decode cX1_addAll 40 = .ok (.getfield 19, 3) := by decide +kernel
theorem dX1_addAll_43 : decode cX1_addAll 43 = .ok (.iconst 0, 1) := by decide +kernel
theorem dX1_addAll_44 : decode cX1_addAll 44 = .ok (.aload_n 0, 1) := by decide +kernel
theorem dX1_addAll_45 : decode cX1_addAll 45 = .ok (.getfield 19, 3) := by decide +kernel
theorem dX1_addAll_48 : decode cX1_addAll 48 = .ok (.iconst 4, 1) := by decide +kernel
theorem dX1_addAll_49 : decode cX1_addAll 49 = .ok (.aload_n 0, 1) := by decide +kernel
theorem dX1_addAll_50 : decode cX1_addAll 50 = .ok (.getfield 26, 3) := by decide +kernel
theorem dX1_addAll_53 : decode cX1_addAll 53 = .ok (.imul, 1) := by decide +kernel
theorem dX1_addAll_54 : decode cX1_addAll 54 = .ok (.iconst 4, 1) := by decide +kernel
theorem dX1_addAll_55 : decode cX1_addAll 55 = .ok (.iload_n 2, 1) := by decide +kernel
theorem dX1_addAll_56 : decode cX1_addAll 56 = .ok (.imul, 1) := by decide +kernel
theorem dX1_addAll_57 : decode cX1_addAll 57 = .ok (.invokestatic 34, 3) := by decide +kernel
theorem dX1_addAll_60 : decode cX1_addAll 60 = .ok (.aload_n 1, 1) := by decide +kernel
theorem dX1_addAll_61 : decode cX1_addAll 61 = .ok (.getfield 22, 3) := by decide +kernel
theorem dX1_addAll_64 : decode cX1_addAll 64 = .ok (.iconst 0, 1) := by decide +kernel
theorem dX1_addAll_65 : decode cX1_addAll 65 = .ok (.aload_n 0, 1) := by decide +kernel
theorem dX1_addAll_66 : decode cX1_addAll 66 = .ok (.getfield 22, 3) := by decide +kernel
theorem dX1_addAll_69 : decode cX1_addAll 69 = .ok (.iconst 2, 1) := by decide +kernel
theorem dX1_addAll_70 : decode cX1_addAll 70 = .ok (.aload_n 0, 1) := by decide +kernel
theorem dX1_addAll_71 : decode cX1_addAll 71 = .ok (.getfield 26, 3) := by decide +kernel
theorem dX1_addAll_74 : decode cX1_addAll 74 = .ok (.imul, 1) := by decide +kernel
theorem dX1_addAll_75 : decode cX1_addAll 75 = .ok (.iconst 2, 1) := by decide +kernel
theorem dX1_addAll_76 : decode cX1_addAll 76 = .ok (.iload_n 2, 1) := by decide +kernel
theorem dX1_addAll_77 : decode cX1_addAll 77 = .ok (.imul, 1) := by decide +kernel
theorem dX1_addAll_78 : decode cX1_addAll 78 = .ok (.invokestatic 34, 3) := by decide +kernel
theorem dX1_addAll_81 : decode cX1_addAll 81 = .ok (.aload_n 0, 1) := by decide +kernel
theorem dX1_addAll_82 : decode cX1_addAll 82 = .ok (.dup, 1) := by decide +kernel
theorem dX1_addAll_83 : decode cX1_addAll 83 = .ok (.getfield 26, 3) := by decide +kernel
theorem dX1_addAll_86 : decode cX1_addAll 86 = .ok (.iload_n 2, 1) := by decide +kernel
theorem dX1_addAll_87 : decode cX1_addAll 87 = .ok (.iadd, 1) := by decide +kernel
theorem dX1_addAll_88 : decode cX1_addAll 88 = .ok (.putfield 26, 3) := by decide +kernel
theorem dX1_addAll_91 : decode cX1_addAll 91 = .ok (.return_, 1) := by decide +kernel
theorem dX1_read_0 : decode cX1_read 0 = .ok (.iload_n 1, 1) := by decide +kernel
theorem dX1_read_1 : decode cX1_read 1 = .ok (.ifCond .lt 11, 3) := by decide +kernel
theorem dX1_read_4 : decode cX1_read 4 = .ok (.iload_n 1, 1) := by decide +kernel
theorem dX1_read_5 : decode cX1_read 5 = .ok (.aload_n 0, 1) := by decide +kernel
theorem dX1_read_6 : decode cX1_read 6 = .ok (.getfield 26, 3) := by decide +kernel
theorem dX1_read_9 : decode cX1_read 9 = .ok (.if_icmp .lt 4, 3) := by decide +kernel
theorem dX1_read_12 : decode cX1_read 12 = .ok (.return_, 1) := by decide +kernel
theorem dX1_read_13 : decode cX1_read 13 = .ok (.aload_n 2, 1) := by decide +kernel
theorem dX1_read_14 : decode cX1_read 14 = .ok (.aload_n 0, 1) := by decide +kernel
theorem dX1_read_15 : decode cX1_read 15 = .ok (.getfield 15, 3) := by decide +kernel
theorem dX1_read_18 : decode cX1_read 18 = .ok (.iload_n 1, 1) := by decide +kernel
theorem dX1_read_19 : decode cX1_read 19 = .ok (.iaload, 1) := by decide +kernel
theorem dX1_read_20 : decode cX1_read 20 = .ok (.putfield 53, 3) := by decide +kernel
theorem dX1_read_23 : decode cX1_read 23 = .ok (.aload_n 0, 1) := by decide +kernel
theorem dX1_read_24 : decode cX1_read 24 = .ok (.getfield 19, 3) := by decide +kernel
theorem dX1_read_27 : decode cX1_read 27 = .ok (.iconst 4, 1) := by decide +kernel
theorem dX1_read_28 : decode cX1_read 28 = .ok (.iload_n 1, 1) := by decide +kernel
theorem dX1_read_29 : decode cX1_read 29 = .ok (.imul, 1) := by decide +kernel
theorem dX1_read_30 : decode cX1_read 30 = .ok (.aload_n 2, 1) := by decide +kernel
theorem dX1_read_31 : decode cX1_read 31 = .ok (.getfield 29, 3) := by decide +kernel
theorem dX1_read_34 : decode cX1_read 34 = .ok (.iconst 0, 1) := by decide +kernel
theorem dX1_read_35 : decode cX1_read 35 = .ok (.iconst 4, 1) := by decide +kernel
theorem dX1_read_36 : decode cX1_read 36 = .ok (.invokestatic 34, 3) := by decide +kernel
theorem dX1_read_39 : decode cX1_read 39 = .ok (.aload_n 2, 1) := by decide +kernel
theorem dX1_read_40 : decode cX1_read 40 = .ok (.aload_n 0, 1) := by decide +kernel
theorem dX1_read_41 : decode cX1_read 41 = .ok (.getfield 22, 3) := by decide +kernel
theorem dX1_read_44 : decode cX1_read 44 = .ok (.iconst 2, 1) := by decide +kernel
theorem dX1_read_45 : decode cX1_read 45 = .ok (.iload_n 1, 1) := by decide +kernel
theorem dX1_read_46 : decode cX1_read 46 = .ok (.imul, 1) := by decide +kernel
theorem dX1_read_47 : decode cX1_read 47 = .ok (.laload, 1) := by decide +kernel
theorem dX1_read_48 : decode cX1_read 48 = .ok (.putfield 40, 3) := by decide +kernel
theorem dX1_read_51 : decode cX1_read 51 = .ok (.aload_n 2, 1) := by decide +kernel
theorem dX1_read_52 : decode cX1_read 52 = .ok (.aload_n 0, 1) := by decide +kernel
theorem dX1_read_53 : decode cX1_read 53 = .ok (.getfield 22, 3) := by decide +kernel
theorem dX1_read_56 : decode cX1_read 56 = .ok (.iconst 2, 1) := by decide +kernel
theorem dX1_read_57 : decode cX1_read 57 = .ok (.iload_n 1, 1) := by decide +kernel
theorem dX1_read_58 : decode cX1_read 58 = .ok (.imul, 1) := by decide +kernel
theorem dX1_read_59 : decode cX1_read 59 = .ok (.iconst 1, 1) := by decide +kernel
theorem dX1_read_60 : decode cX1_read 60 = .ok (.iadd, 1) := by decide +kernel
theorem dX1_read_61 : decode cX1_read 61 = .ok (.laload, 1) := by decide +kernel
theorem dX1_read_62 : decode cX1_read 62 = .ok (.putfield 44, 3) := by decide +kernel
theorem dX1_read_65 : decode cX1_read 65 = .ok (.return_, 1) := by decide +kernel
theorem dX1_drop_0 : decode cX1_drop 0 = .ok (.iload_n 1, 1) := by decide +kernel
theorem dX1_drop_1 : decode cX1_drop 1 = .ok (.ifCond .lt 11, 3) := by decide +kernel
theorem dX1_drop_4 : decode cX1_drop 4 = .ok (.iload_n 1, 1) := by decide +kernel
theorem dX1_drop_5 : decode cX1_drop 5 = .ok (.aload_n 0, 1) := by decide +kernel
theorem dX1_drop_6 : decode cX1_drop 6 = .ok (.getfield 26, 3) := by decide +kernel
theorem dX1_drop_9 : decode cX1_drop 9 = .ok (.if_icmp .lt 4, 3) := by decide +kernel
theorem dX1_drop_12 : decode cX1_drop 12 = .ok (.return_, 1) := by decide +kernel
theorem dX1_drop_13 : decode cX1_drop 13 = .ok (.aload_n 0, 1) := by decide +kernel
theorem dX1_drop_14 : decode cX1_drop 14 = .ok (.getfield 26, 3) := by decide +kernel
theorem dX1_drop_17 : decode cX1_drop 17 = .ok (.iload_n 1, 1) := by decide +kernel
theorem dX1_drop_18 : decode cX1_drop 18 = .ok (.isub, 1) := by decide +kernel
theorem dX1_drop_19 : decode cX1_drop 19 = .ok (.iconst 1, 1) := by decide +kernel
theorem dX1_drop_20 : decode cX1_drop 20 = .ok (.isub, 1) := by decide +kernel
theorem dX1_drop_21 : decode cX1_drop 21 = .ok (.istore_n 2, 1) := by decide +kernel
theorem dX1_drop_22 : decode cX1_drop 22 = .ok (.aload_n 0, 1) := by decide +kernel
theorem dX1_drop_23 : decode cX1_drop 23 = .ok (.getfield 15, 3) := by decide +kernel
theorem dX1_drop_26 : decode cX1_drop 26 = .ok (.iload_n 1, 1) := by decide +kernel
theorem dX1_drop_27 : decode cX1_drop 27 = .ok (.iconst 1, 1) := by decide +kernel
theorem dX1_drop_28 : decode cX1_drop 28 = .ok (.iadd, 1) := by decide +kernel
theorem dX1_drop_29 : decode cX1_drop 29 = .ok (.aload_n 0, 1) := by decide +kernel
theorem dX1_drop_30 : decode cX1_drop 30 = .ok (.getfield 15, 3) := by decide +kernel
theorem dX1_drop_33 : decode cX1_drop 33 = .ok (.iload_n 1, 1) := by decide +kernel
theorem dX1_drop_34 : decode cX1_drop 34 = .ok (.iload_n 2, 1) := by decide +kernel
theorem dX1_drop_35 : decode cX1_drop 35 = .ok (.invokestatic 34, 3) := by decide +kernel
theorem dX1_drop_38 : decode cX1_drop 38 = .ok (.aload_n 0, 1) := by decide +kernel
theorem dX1_drop_39 : decode cX1_drop 39 = .ok (.getfield 19, 3) := by decide +kernel
theorem dX1_drop_42 : decode cX1_drop 42 = .ok (.iconst 4, 1) := by decide +kernel
theorem dX1_drop_43 : decode cX1_drop 43 = .ok (.iload_n 1, 1) := by decide +kernel
theorem dX1_drop_44 : decode cX1_drop 44 = .ok (.iconst 1, 1) := by decide +kernel
theorem dX1_drop_45 : decode cX1_drop 45 = .ok (.iadd, 1) := by decide +kernel
theorem dX1_drop_46 : decode cX1_drop 46 = .ok (.imul, 1) := by decide +kernel
theorem dX1_drop_47 : decode cX1_drop 47 = .ok (.aload_n 0, 1) := by decide +kernel
theorem dX1_drop_48 : decode cX1_drop 48 = .ok (.getfield 19, 3) := by decide +kernel
theorem dX1_drop_51 : decode cX1_drop 51 = .ok (.iconst 4, 1) := by decide +kernel
theorem dX1_drop_52 : decode cX1_drop 52 = .ok (.iload_n 1, 1) := by decide +kernel
theorem dX1_drop_53 : decode cX1_drop 53 = .ok (.imul, 1) := by decide +kernel
theorem dX1_drop_54 : decode cX1_drop 54 = .ok (.iconst 4, 1) := by decide +kernel
theorem dX1_drop_55 : decode cX1_drop 55 = .ok (.iload_n 2, 1) := by decide +kernel
theorem dX1_drop_56 : decode cX1_drop 56 = .ok (.imul, 1) := by decide +kernel
theorem dX1_drop_57 : decode cX1_drop 57 = .ok (.invokestatic 34, 3) := by decide +kernel
theorem dX1_drop_60 : decode cX1_drop 60 = .ok (.aload_n 0, 1) := by decide +kernel
theorem dX1_drop_61 : decode cX1_drop 61 = .ok (.getfield 22, 3) := by decide +kernel
theorem dX1_drop_64 : decode cX1_drop 64 = .ok (.iconst 2, 1) := by decide +kernel
theorem dX1_drop_65 : decode cX1_drop 65 = .ok (.iload_n 1, 1) := by decide +kernel
theorem dX1_drop_66 : decode cX1_drop 66 = .ok (.iconst 1, 1) := by decide +kernel
theorem dX1_drop_67 : decode cX1_drop 67 = .ok (.iadd, 1) := by decide +kernel
theorem dX1_drop_68 : decode cX1_drop 68 = .ok (.imul, 1) := by decide +kernel
theorem dX1_drop_69 : decode cX1_drop 69 = .ok (.aload_n 0, 1) := by decide +kernel
theorem dX1_drop_70 : decode cX1_drop 70 = .ok (.getfield 22, 3) := by decide +kernel
theorem dX1_drop_73 : decode cX1_drop 73 = .ok (.iconst 2, 1) := by decide +kernel
theorem dX1_drop_74 : decode cX1_drop 74 = .ok (.iload_n 1, 1) := by decide +kernel
theorem dX1_drop_75 : decode cX1_drop 75 = .ok (.imul, 1) := by decide +kernel
theorem dX1_drop_76 : decode cX1_drop 76 = .ok (.iconst 2, 1) := by decide +kernel
theorem dX1_drop_77 : decode cX1_drop 77 = .ok (.iload_n 2, 1) := by decide +kernel
theorem dX1_drop_78 : decode cX1_drop 78 = .ok (.imul, 1) := by decide +kernel
theorem dX1_drop_79 : decode cX1_drop 79 = .ok (.invokestatic 34, 3) := by decide +kernel
theorem dX1_drop_82 : decode cX1_drop 82 = .ok (.aload_n 0, 1) := by decide +kernel
theorem dX1_drop_83 : decode cX1_drop 83 = .ok (.dup, 1) := by decide +kernel
theorem dX1_drop_84 : decode cX1_drop 84 = .ok (.getfield 26, 3) := by decide +kernel
theorem dX1_drop_87 : decode cX1_drop 87 = .ok (.iconst 1, 1) := by decide +kernel
theorem dX1_drop_88 : decode cX1_drop 88 = .ok (.isub, 1) := by decide +kernel
theorem dX1_drop_89 : decode cX1_drop 89 = .ok (.putfield 26, 3) := by decide +kernel
theorem dX1_drop_92 : decode cX1_drop 92 = .ok (.return_, 1) := by decide +kernel
theorem dX2_init_0 : decode cX2_init 0 = .ok (.aload_n 0, 1) := by decide +kernel
theorem dX2_init_1 : decode cX2_init 1 = .ok (.invokespecial 3, 3) := by decide +kernel
theorem dX2_init_4 : decode cX2_init 4 = .ok (.aload_n 0, 1) := by decide +kernel
theorem dX2_init_5 : decode cX2_init 5 = .ok (.getstatic 9, 3) := by decide +kernel
theorem dX2_init_8 : decode cX2_init 8 = .ok (.arraylength, 1) := by decide +kernel
theorem dX2_init_9 : decode cX2_init 9 = .ok (.newarray .int, 2) := by decide +kernel
theorem dX2_init_11 : decode cX2_init 11 = .ok (.putfield 15, 3) := by decide +kernel
theorem dX2_init_14 : decode cX2_init 14 = .ok (.aload_n 0, 1) := by decide +kernel
theorem dX2_init_15 : decode cX2_init 15 = .ok (.iconst 1, 1) := by decide +kernel
theorem dX2_init_16 : decode cX2_init 16 = .ok (.putfield 18, 3) := by decide +kernel
theorem dX2_init_19 : decode cX2_init 19 = .ok (.return_, 1) := by decide +kernel
theorem dX2_clear_0 : decode cX2_clear 0 = .ok (.aload_n 0, 1) := by decide +kernel
theorem dX2_clear_1 : decode cX2_clear 1 = .ok (.iconst 1, 1) := by decide +kernel
theorem dX2_clear_2 : decode cX2_clear 2 = .ok (.putfield 18, 3) := by decide +kernel
theorem dX2_clear_5 : decode cX2_clear 5 = .ok (.aload_n 0, 1) := by decide +kernel
theorem dX2_clear_6 : decode cX2_clear 6 = .ok (.getfield 15, 3) := by decide +kernel
theorem dX2_clear_9 : decode cX2_clear 9 = .ok (.iconst 0, 1) := by decide +kernel
theorem dX2_clear_10 : decode cX2_clear 10 = .ok (.invokestatic 22, 3) := by decide +kernel
theorem dX2_clear_13 : decode cX2_clear 13 = .ok (.return_, 1) := by decide +kernel
theorem dX2_copyFrom_0 : decode cX2_copyFrom 0 = .ok (.aload_n 0, 1) := by decide +kernel
theorem dX2_copyFrom_1 : decode cX2_copyFrom 1 = .ok (.aload_n 1, 1) := by decide +kernel
theorem dX2_copyFrom_2 : decode cX2_copyFrom 2 = .ok (.getfield 18, 3) := by decide +kernel
theorem dX2_copyFrom_5 : decode cX2_copyFrom 5 = .ok (.putfield 18, 3) := by decide +kernel
theorem dX2_copyFrom_8 : decode cX2_copyFrom 8 = .ok (.aload_n 1, 1) := by decide +kernel
theorem dX2_copyFrom_9 : decode cX2_copyFrom 9 = .ok (.getfield 15, 3) := by decide +kernel
theorem dX2_copyFrom_12 : decode cX2_copyFrom 12 = .ok (.iconst 0, 1) := by decide +kernel
theorem dX2_copyFrom_13 : decode cX2_copyFrom 13 = .ok (.aload_n 0, 1) := by decide +kernel
theorem dX2_copyFrom_14 : decode cX2_copyFrom 14 = .ok (.getfield 15, 3) := by decide +kernel
theorem dX2_copyFrom_17 : decode cX2_copyFrom 17 = .ok (.iconst 0, 1) := by decide +kernel
theorem dX2_copyFrom_18 : decode cX2_copyFrom 18 = .ok (.aload_n 0, 1) := by decide +kernel
theorem dX2_copyFrom_19 : decode cX2_copyFrom 19 = .ok (.getfield 15, 3) := by decide +kernel
theorem dX2_copyFrom_22 : decode cX2_copyFrom 22 = .ok (.arraylength, 1) := by decide +kernel
theorem dX2_copyFrom_23 : decode cX2_copyFrom 23 = .ok (.invokestatic 28, 3) := by decide +kernel
theorem dX2_copyFrom_26 : decode cX2_copyFrom 26 = .ok (.return_, 1) := by decide +kernel
theorem dX2_isFirst_0 : decode cX2_isFirst 0 = .ok (.aload_n 0, 1) := by decide +kernel
theorem dX2_isFirst_1 : decode cX2_isFirst 1 = .ok (.aload_n 0, 1) := by decide +kernel
theorem dX2_isFirst_2 : decode cX2_isFirst 2 = .ok (.getfield 18, 3) := by decide +kernel
theorem dX2_isFirst_5 : decode cX2_isFirst 5 = .ok (.bipush 75, 2) := by decide +kernel
theorem dX2_isFirst_7 : decode cX2_isFirst 7 = .ok (.imul, 1) := by decide +kernel
theorem dX2_isFirst_8 : decode cX2_isFirst 8 = .ok (.bipush 74, 2) := by decide +kernel
theorem dX2_isFirst_10 : decode cX2_isFirst 10 = .ok (.iadd, 1) := by decide +kernel
theorem dX2_isFirst_11 : decode cX2_isFirst 11 = .ok (.ldc 34, 2) := by decide +kernel
theorem dX2_isFirst_13 : decode cX2_isFirst 13 = .ok (.irem, 1) := by decide +kernel
theorem dX2_isFirst_14 : decode cX2_isFirst 14 = .ok (.putfield 18, 3) := by decide +kernel
theorem dX2_isFirst_17 : decode cX2_isFirst 17 = .ok (.iload_n 1, 1) := by decide +kernel
theorem dX2_isFirst_18 : decode cX2_isFirst 18 = .ok (.iload_n 2, 1) := by decide +kernel
theorem dX2_isFirst_19 : decode cX2_isFirst 19 = .ok (.iadd, 1) := by decide +kernel
theorem dX2_isFirst_20 : decode cX2_isFirst 20 = .ok (.istore_n 3, 1) := by decide +kernel
theorem dX2_isFirst_21 : decode cX2_isFirst 21 = .ok (.iload_n 3, 1) := by decide +kernel
theorem dX2_isFirst_22 : decode cX2_isFirst 22 = .ok (.ifCond .le 13, 3) := by decide +kernel
theorem dX2_isFirst_25 : decode cX2_isFirst 25 = .ok (.aload_n 0, 1) := by decide +kernel
theorem dX2_isFirst_26 : decode cX2_isFirst 26 = .ok (.getfield 18, 3) := by decide +kernel
theorem dX2_isFirst_29 : decode cX2_isFirst 29 = .ok (.iload_n 3, 1) := by decide +kernel
theorem dX2_isFirst_30 : decode cX2_isFirst 30 = .ok (.irem, 1) := by decide +kernel
theorem dX2_isFirst_31 : decode cX2_isFirst 31 = .ok (.iload_n 1, 1) := by decide +kernel
theorem dX2_isFirst_32 : decode cX2_isFirst 32 = .ok (.if_icmp .ge 7, 3) := by decide +kernel
theorem dX2_isFirst_35 : decode cX2_isFirst 35 = .ok (.iconst 1, 1) := by decide +kernel
theorem dX2_isFirst_36 : decode cX2_isFirst 36 = .ok (.goto 4, 3) := by decide +kernel
theorem dX2_isFirst_39 : decode cX2_isFirst 39 = .ok (.iconst 0, 1) := by decide +kernel
theorem dX2_isFirst_40 : decode cX2_isFirst 40 = .ok (.istore 4, 2) := by decide +kernel
theorem dX2_isFirst_42 : decode cX2_isFirst 42 = .ok (.aload_n 0, 1) := by decide +kernel
theorem dX2_isFirst_43 : decode cX2_isFirst 43 = .ok (.iload 4, 2) := by decide +kernel
theorem dX2_isFirst_45 : decode cX2_isFirst 45 = .ok (.ifCond .eq 7, 3) := by decide +kernel
theorem dX2_isFirst_48 : decode cX2_isFirst 48 = .ok (.iload_n 1, 1) := by decide +kernel
theorem dX2_isFirst_49 : decode cX2_isFirst 49 = .ok (.goto 4, 3) := by decide +kernel
theorem dX2_isFirst_52 : decode cX2_isFirst 52 = .ok (.iload_n 2, 1) := by decide +kernel
theorem dX2_isFirst_53 : decode cX2_isFirst 53 = .ok (.iconst 1, 1) := by decide +kernel
theorem dX2_isFirst_54 : decode cX2_isFirst 54 = .ok (.invokevirtual 35, 3) := by decide +kernel
theorem dX2_isFirst_57 : decode cX2_isFirst 57 = .ok (.aload_n 0, 1) := by decide +kernel
theorem dX2_isFirst_58 : decode cX2_isFirst 58 = .ok (.iload_n 3, 1) := by decide +kernel
theorem dX2_isFirst_59 : decode cX2_isFirst 59 = .ok (.iconst (-1), 1) := by decide +kernel
theorem dX2_isFirst_60 : decode cX2_isFirst 60 = .ok (.invokevirtual 35, 3) := by decide +kernel
theorem dX2_isFirst_63 : decode cX2_isFirst 63 = .ok (.iload 4, 2) := by decide +kernel
theorem dX2_isFirst_65 : decode cX2_isFirst 65 = .ok (.ireturn, 1) := by decide +kernel
theorem dX2_multiply_0 : decode cX2_multiply 0 = .ok (.iconst 0, 1) := by decide +kernel
theorem dX2_multiply_1 : decode cX2_multiply 1 = .ok (.istore_n 3, 1) := by decide +kernel
theorem dX2_multiply_2 : decode cX2_multiply 2 = .ok (.iload_n 3, 1) := by decide +kernel
theorem dX2_multiply_3 : decode cX2_multiply 3 = .ok (.getstatic 9, 3) := by decide +kernel
theorem dX2_multiply_6 : decode cX2_multiply 6 = .ok (.arraylength, 1) := by decide +kernel
theorem dX2_multiply_7 : decode cX2_multiply 7 = .ok (.if_icmp .ge 52, 3) := by decide +kernel
theorem dX2_multiply_10 : decode cX2_multiply 10 = .ok (.iload_n 1, 1) := by decide +kernel
theorem dX2_multiply_11 : decode cX2_multiply 11 = .ok (.istore 4, 2) := by decide +kernel
theorem dX2_multiply_13 : decode cX2_multiply 13 = .ok (.iload 4, 2) := by decide +kernel
theorem dX2_multiply_15 : decode cX2_multiply 15 = .ok (.iconst 1, 1) := by decide +kernel
theorem dX2_multiply_16 : decode cX2_multiply 16 = .ok (.if_icmp .le 37, 3) := by decide +kernel
theorem dX2_multiply_19 : decode cX2_multiply 19 = .ok (.iload 4, 2) := by decide +kernel
theorem dX2_multiply_21 : decode cX2_multiply 21 = .ok (.getstatic 9, 3) := by decide +kernel
theorem dX2_multiply_24 : decode cX2_multiply 24 = .ok (.iload_n 3, 1) := by decide +kernel
theorem dX2_multiply_25 : decode cX2_multiply 25 = .ok (.iaload, 1) := by decide +kernel
theorem dX2_multiply_26 : decode cX2_multiply 26 = .ok (.irem, 1) := by decide +kernel
theorem dX2_multiply_27 : decode cX2_multiply 27 = .ok (.ifCond .ne 26, 3) := by decide +kernel
theorem dX2_multiply_30 : decode cX2_multiply 30 = .ok (.aload_n 0, 1) := by decide +kernel
theorem dX2_multiply_31 : decode cX2_multiply 31 = .ok (.getfield 15, 3) := by decide +kernel
theorem dX2_multiply_34 : decode cX2_multiply 34 = .ok (.iload_n 3, 1) := by decide +kernel
theorem dX2_multiply_35 : decode cX2_multiply 35 = .ok (.dup2, 1) := by decide +kernel
theorem dX2_multiply_36 : decode cX2_multiply 36 = .ok (.iaload, 1) := by decide +kernel
theorem dX2_multiply_37 : decode cX2_multiply 37 = .ok (.iload_n 2, 1) := by decide +kernel
theorem dX2_multiply_38 : decode cX2_multiply 38 = .ok (.iadd, 1) := by decide +kernel
theorem dX2_multiply_39 : decode cX2_multiply 39 = .ok (.iastore, 1) := by decide +kernel
theorem dX2_multiply_40 : decode cX2_multiply 40 = .ok (.iload 4, 2) := by decide +kernel
theorem dX2_multiply_42 : decode cX2_multiply 42 = .ok (.getstatic 9, 3) := by decide +kernel
theorem dX2_multiply_45 : decode cX2_multiply 45 = .ok (.iload_n 3, 1) := by decide +kernel
theorem dX2_multiply_46 : decode cX2_multiply 46 = .ok (.iaload, 1) := by decide +kernel
theorem dX2_multiply_47 : decode cX2_multiply 47 = .ok (.idiv, 1) := by decide +kernel
theorem dX2_multiply_48 : decode cX2_multiply 48 = .ok (.istore 4, 2) := by decide +kernel
theorem dX2_multiply_50 : decode cX2_multiply 50 = .ok (.goto (-37), 3) := by decide +kernel
theorem dX2_multiply_53 : decode cX2_multiply 53 = .ok (.iinc 3 1, 3) := by decide +kernel
theorem dX2_multiply_56 : decode cX2_multiply 56 = .ok (.goto (-54), 3) := by decide +kernel
theorem dX2_multiply_59 : decode cX2_multiply 59 = .ok (.return_, 1) := by decide +kernel
theorem dX2_line_0 : decode cX2_line 0 = .ok (.lconst 1, 1) := by decide +kernel
theorem dX2_line_1 : decode cX2_line 1 = .ok (.lstore_n 2, 1) := by decide +kernel
theorem dX2_line_2 : decode cX2_line 2 = .ok (.iconst 0, 1) := by decide +kernel
theorem dX2_line_3 : decode cX2_line 3 = .ok (.istore 4, 2) := by decide +kernel
theorem dX2_line_5 : decode cX2_line 5 = .ok (.iload 4, 2) := by decide +kernel
theorem dX2_line_7 : decode cX2_line 7 = .ok (.getstatic 9, 3) := by decide +kernel
theorem dX2_line_10 : decode cX2_line 10 = .ok (.arraylength, 1) := by decide +kernel
theorem dX2_line_11 : decode cX2_line 11 = .ok (.if_icmp .ge 63, 3) := by decide +kernel
theorem dX2_line_14 : decode cX2_line 14 = .ok (.iload_n 1, 1) := by decide +kernel
theorem dX2_line_15 : decode cX2_line 15 = .ok (.ifCond .eq 13, 3) := by decide +kernel
theorem dX2_line_18 : decode cX2_line 18 = .ok (.aload_n 0, 1) := by decide +kernel
theorem dX2_line_19 : decode cX2_line 19 = .ok (.getfield 15, 3) := by decide +kernel
theorem dX2_line_22 : decode cX2_line 22 = .ok (.iload 4, 2) := by decide +kernel
theorem dX2_line_24 : decode cX2_line 24 = .ok (.iaload, 1) := by decide +kernel
theorem dX2_line_25 : decode cX2_line 25 = .ok (.goto 11, 3) := by decide +kernel
theorem dX2_line_28 : decode cX2_line 28 = .ok (.aload_n 0, 1) := by decide +kernel
theorem dX2_line_29 : decode cX2_line 29 = .ok (.getfield 15, 3) := by decide +kernel
theorem dX2_line_32 : decode cX2_line 32 = .ok (.iload 4, 2) := by decide +kernel
theorem dX2_line_34 : decode cX2_line 34 = .ok (.iaload, 1) := by decide +kernel
theorem dX2_line_35 : decode cX2_line 35 = .ok (.ineg, 1) := by decide +kernel
theorem dX2_line_36 : decode cX2_line 36 = .ok (.istore 5, 2) := by decide +kernel
theorem dX2_line_38 : decode cX2_line 38 = .ok (.iconst 0, 1) := by decide +kernel
theorem dX2_line_39 : decode cX2_line 39 = .ok (.istore 6, 2) := by decide +kernel
theorem dX2_line_41 : decode cX2_line 41 = .ok (.iload 6, 2) := by decide +kernel
theorem dX2_line_43 : decode cX2_line 43 = .ok (.iload 5, 2) := by decide +kernel
theorem dX2_line_45 : decode cX2_line 45 = .ok (.if_icmp .ge 23, 3) := by decide +kernel
theorem dX2_line_48 : decode cX2_line 48 = .ok (.lload_n 2, 1) := by decide +kernel
theorem dX2_line_49 : decode cX2_line 49 = .ok (.getstatic 9, 3) := by decide +kernel
theorem dX2_line_52 : decode cX2_line 52 = .ok (.iload 4, 2) := by decide +kernel
theorem dX2_line_54 : decode cX2_line 54 = .ok (.iaload, 1) := by decide +kernel
theorem dX2_line_55 : decode cX2_line 55 = .ok (.i2l, 1) := by decide +kernel
theorem dX2_line_56 : decode cX2_line 56 = .ok (.lmul, 1) := by decide +kernel
theorem dX2_line_57 : decode cX2_line 57 = .ok (.ldc2_w 39, 3) := by decide +kernel
theorem dX2_line_60 : decode cX2_line 60 = .ok (.lrem, 1) := by decide +kernel
theorem dX2_line_61 : decode cX2_line 61 = .ok (.lstore_n 2, 1) := by decide +kernel
theorem dX2_line_62 : decode cX2_line 62 = .ok (.iinc 6 1, 3) := by decide +kernel
theorem dX2_line_65 : decode cX2_line 65 = .ok (.goto (-24), 3) := by decide +kernel
theorem dX2_line_68 : decode cX2_line 68 = .ok (.iinc 4 1, 3) := by decide +kernel
theorem dX2_line_71 : decode cX2_line 71 = .ok (.goto (-66), 3) := by decide +kernel
theorem dX2_line_74 : decode cX2_line 74 = .ok (.lload_n 2, 1) := by decide +kernel
theorem dX2_line_75 : decode cX2_line 75 = .ok (.l2i, 1) := by decide +kernel
theorem dX2_line_76 : decode cX2_line 76 = .ok (.ireturn, 1) := by decide +kernel
theorem dX3_init_0 : decode cX3_init 0 = .ok (.aload_n 0, 1) := by decide +kernel
theorem dX3_init_1 : decode cX3_init 1 = .ok (.invokespecial 3, 3) := by decide +kernel
theorem dX3_init_4 : decode cX3_init 4 = .ok (.aload_n 0, 1) := by decide +kernel
theorem dX3_init_5 : decode cX3_init 5 = .ok (.iconst 4, 1) := by decide +kernel
theorem dX3_init_6 : decode cX3_init 6 = .ok (.newarray .int, 2) := by decide +kernel
theorem dX3_init_8 : decode cX3_init 8 = .ok (.putfield 9, 3) := by decide +kernel
theorem dX3_init_11 : decode cX3_init 11 = .ok (.return_, 1) := by decide +kernel
theorem dX4_init_0 : decode cX4_init 0 = .ok (.aload_n 0, 1) := by decide +kernel
theorem dX4_init_1 : decode cX4_init 1 = .ok (.invokespecial 3, 3) := by decide +kernel
theorem dX4_init_4 : decode cX4_init 4 = .ok (.aload_n 0, 1) := by decide +kernel
theorem dX4_init_5 : decode cX4_init 5 = .ok (.new 9, 3) := by decide +kernel
theorem dX4_init_8 : decode cX4_init 8 = .ok (.dup, 1) := by decide +kernel
theorem dX4_init_9 : decode cX4_init 9 = .ok (.bipush 120, 2) := by decide +kernel
theorem dX4_init_11 : decode cX4_init 11 = .ok (.invokespecial 11, 3) := by decide +kernel
theorem dX4_init_14 : decode cX4_init 14 = .ok (.putfield 14, 3) := by decide +kernel
theorem dX4_init_17 : decode cX4_init 17 = .ok (.aload_n 0, 1) := by decide +kernel
theorem dX4_init_18 : decode cX4_init 18 = .ok (.new 9, 3) := by decide +kernel
theorem dX4_init_21 : decode cX4_init 21 = .ok (.dup, 1) := by decide +kernel
theorem dX4_init_22 : decode cX4_init 22 = .ok (.bipush 60, 2) := by decide +kernel
theorem dX4_init_24 : decode cX4_init 24 = .ok (.invokespecial 11, 3) := by decide +kernel
theorem dX4_init_27 : decode cX4_init 27 = .ok (.putfield 20, 3) := by decide +kernel
theorem dX4_init_30 : decode cX4_init 30 = .ok (.aload_n 0, 1) := by decide +kernel
theorem dX4_init_31 : decode cX4_init 31 = .ok (.new 9, 3) := by decide +kernel
theorem dX4_init_34 : decode cX4_init 34 = .ok (.dup, 1) := by decide +kernel
theorem dX4_init_35 : decode cX4_init 35 = .ok (.bipush 60, 2) := by decide +kernel
theorem dX4_init_37 : decode cX4_init 37 = .ok (.invokespecial 11, 3) := by decide +kernel
theorem dX4_init_40 : decode cX4_init 40 = .ok (.putfield 23, 3) := by decide +kernel
theorem dX4_init_43 : decode cX4_init 43 = .ok (.aload_n 0, 1) := by decide +kernel
theorem dX4_init_44 : decode cX4_init 44 = .ok (.new 9, 3) := by decide +kernel
theorem dX4_init_47 : decode cX4_init 47 = .ok (.dup, 1) := by decide +kernel
theorem dX4_init_48 : decode cX4_init 48 = .ok (.bipush 60, 2) := by decide +kernel
theorem dX4_init_50 : decode cX4_init 50 = .ok (.invokespecial 11, 3) := by decide +kernel
theorem dX4_init_53 : decode cX4_init 53 = .ok (.putfield 26, 3) := by decide +kernel
theorem dX4_init_56 : decode cX4_init 56 = .ok (.aload_n 0, 1) := by decide +kernel
theorem dX4_init_57 : decode cX4_init 57 = .ok (.new 9, 3) := by decide +kernel
theorem dX4_init_60 : decode cX4_init 60 = .ok (.dup, 1) := by decide +kernel
theorem dX4_init_61 : decode cX4_init 61 = .ok (.iconst 1, 1) := by decide +kernel
theorem dX4_init_62 : decode cX4_init 62 = .ok (.invokespecial 11, 3) := by decide +kernel
theorem dX4_init_65 : decode cX4_init 65 = .ok (.putfield 29, 3) := by decide +kernel
theorem dX4_init_68 : decode cX4_init 68 = .ok (.aload_n 0, 1) := by decide +kernel
theorem dX4_init_69 : decode cX4_init 69 = .ok (.bipush 60, 2) := by decide +kernel
theorem dX4_init_71 : decode cX4_init 71 = .ok (.newarray .int, 2) := by decide +kernel
theorem dX4_init_73 : decode cX4_init 73 = .ok (.putfield 32, 3) := by decide +kernel
theorem dX4_init_76 : decode cX4_init 76 = .ok (.aload_n 0, 1) := by decide +kernel
theorem dX4_init_77 : decode cX4_init 77 = .ok (.bipush 60, 2) := by decide +kernel
theorem dX4_init_79 : decode cX4_init 79 = .ok (.newarray .int, 2) := by decide +kernel
theorem dX4_init_81 : decode cX4_init 81 = .ok (.putfield 36, 3) := by decide +kernel
theorem dX4_init_84 : decode cX4_init 84 = .ok (.aload_n 0, 1) := by decide +kernel
theorem dX4_init_85 : decode cX4_init 85 = .ok (.bipush 100, 2) := by decide +kernel
theorem dX4_init_87 : decode cX4_init 87 = .ok (.newarray .boolean, 2) := by decide +kernel
theorem dX4_init_89 : decode cX4_init 89 = .ok (.putfield 39, 3) := by decide +kernel
theorem dX4_init_92 : decode cX4_init 92 = .ok (.return_, 1) := by decide +kernel
theorem dX4_open_0 : decode cX4_open 0 = .ok (.aload_n 0, 1) := by decide +kernel
theorem dX4_open_1 : decode cX4_open 1 = .ok (.getfield 14, 3) := by decide +kernel
theorem dX4_open_4 : decode cX4_open 4 = .ok (.iconst 0, 1) := by decide +kernel
theorem dX4_open_5 : decode cX4_open 5 = .ok (.putfield 43, 3) := by decide +kernel
theorem dX4_open_8 : decode cX4_open 8 = .ok (.aload_n 0, 1) := by decide +kernel
theorem dX4_open_9 : decode cX4_open 9 = .ok (.getfield 20, 3) := by decide +kernel
theorem dX4_open_12 : decode cX4_open 12 = .ok (.iconst 0, 1) := by decide +kernel
theorem dX4_open_13 : decode cX4_open 13 = .ok (.putfield 43, 3) := by decide +kernel
theorem dX4_open_16 : decode cX4_open 16 = .ok (.aload_n 0, 1) := by decide +kernel
theorem dX4_open_17 : decode cX4_open 17 = .ok (.getfield 23, 3) := by decide +kernel
theorem dX4_open_20 : decode cX4_open 20 = .ok (.iconst 0, 1) := by decide +kernel
theorem dX4_open_21 : decode cX4_open 21 = .ok (.putfield 43, 3) := by decide +kernel
theorem dX4_open_24 : decode cX4_open 24 = .ok (.aload_n 0, 1) := by decide +kernel
theorem dX4_open_25 : decode cX4_open 25 = .ok (.getfield 26, 3) := by decide +kernel
theorem dX4_open_28 : decode cX4_open 28 = .ok (.iconst 0, 1) := by decide +kernel
theorem dX4_open_29 : decode cX4_open 29 = .ok (.putfield 43, 3) := by decide +kernel
theorem dX4_open_32 : decode cX4_open 32 = .ok (.return_, 1) := by decide +kernel
theorem dX5_init_0 : decode cX5_init 0 = .ok (.aload_n 0, 1) := by decide +kernel
theorem dX5_init_1 : decode cX5_init 1 = .ok (.invokespecial 3, 3) := by decide +kernel
theorem dX5_init_4 : decode cX5_init 4 = .ok (.aload_n 0, 1) := by decide +kernel
theorem dX5_init_5 : decode cX5_init 5 = .ok (.bipush 60, 2) := by decide +kernel
theorem dX5_init_7 : decode cX5_init 7 = .ok (.newarray .int, 2) := by decide +kernel
theorem dX5_init_9 : decode cX5_init 9 = .ok (.putfield 9, 3) := by decide +kernel
theorem dX5_init_12 : decode cX5_init 12 = .ok (.aload_n 0, 1) := by decide +kernel
theorem dX5_init_13 : decode cX5_init 13 = .ok (.bipush 60, 2) := by decide +kernel
theorem dX5_init_15 : decode cX5_init 15 = .ok (.newarray .int, 2) := by decide +kernel
theorem dX5_init_17 : decode cX5_init 17 = .ok (.putfield 15, 3) := by decide +kernel
theorem dX5_init_20 : decode cX5_init 20 = .ok (.aload_n 0, 1) := by decide +kernel
theorem dX5_init_21 : decode cX5_init 21 = .ok (.bipush 60, 2) := by decide +kernel
theorem dX5_init_23 : decode cX5_init 23 = .ok (.newarray .int, 2) := by decide +kernel
theorem dX5_init_25 : decode cX5_init 25 = .ok (.putfield 18, 3) := by decide +kernel
theorem dX5_init_28 : decode cX5_init 28 = .ok (.aload_n 0, 1) := by decide +kernel
theorem dX5_init_29 : decode cX5_init 29 = .ok (.bipush 60, 2) := by decide +kernel
theorem dX5_init_31 : decode cX5_init 31 = .ok (.newarray .int, 2) := by decide +kernel
theorem dX5_init_33 : decode cX5_init 33 = .ok (.putfield 21, 3) := by decide +kernel
theorem dX5_init_36 : decode cX5_init 36 = .ok (.aload_n 0, 1) := by decide +kernel
theorem dX5_init_37 : decode cX5_init 37 = .ok (.bipush 60, 2) := by decide +kernel
theorem dX5_init_39 : decode cX5_init 39 = .ok (.newarray .int, 2) := by decide +kernel
theorem dX5_init_41 : decode cX5_init 41 = .ok (.putfield 24, 3) := by decide +kernel
theorem dX5_init_44 : decode cX5_init 44 = .ok (.aload_n 0, 1) := by decide +kernel
theorem dX5_init_45 : decode cX5_init 45 = .ok (.bipush 60, 2) := by decide +kernel
theorem dX5_init_47 : decode cX5_init 47 = .ok (.newarray .int, 2) := by decide +kernel
theorem dX5_init_49 : decode cX5_init 49 = .ok (.putfield 27, 3) := by decide +kernel
theorem dX5_init_52 : decode cX5_init 52 = .ok (.return_, 1) := by decide +kernel
theorem dX5_add_0 : decode cX5_add 0 = .ok (.aload_n 0, 1) := by decide +kernel
theorem dX5_add_1 : decode cX5_add 1 = .ok (.getfield 30, 3) := by decide +kernel
theorem dX5_add_4 : decode cX5_add 4 = .ok (.bipush 60, 2) := by decide +kernel
theorem dX5_add_6 : decode cX5_add 6 = .ok (.if_icmp .lt 5, 3) := by decide +kernel
theorem dX5_add_9 : decode cX5_add 9 = .ok (.iconst (-1), 1) := by decide +kernel
theorem dX5_add_10 : decode cX5_add 10 = .ok (.ireturn, 1) := by decide +kernel
theorem dX5_add_11 : decode cX5_add 11 = .ok (.aload_n 0, 1) := by decide +kernel
theorem dX5_add_12 : decode cX5_add 12 = .ok (.getfield 9, 3) := by decide +kernel
theorem dX5_add_15 : decode cX5_add 15 = .ok (.aload_n 0, 1) := by decide +kernel
theorem dX5_add_16 : decode cX5_add 16 = .ok (.getfield 30, 3) := by decide +kernel
theorem dX5_add_19 : decode cX5_add 19 = .ok (.iload_n 1, 1) := by decide +kernel
theorem dX5_add_20 : decode cX5_add 20 = .ok (.iastore, 1) := by decide +kernel
theorem dX5_add_21 : decode cX5_add 21 = .ok (.aload_n 0, 1) := by decide +kernel
theorem dX5_add_22 : decode cX5_add 22 = .ok (.getfield 15, 3) := by decide +kernel
theorem dX5_add_25 : decode cX5_add 25 = .ok (.aload_n 0, 1) := by decide +kernel
theorem dX5_add_26 : decode cX5_add 26 = .ok (.getfield 30, 3) := by decide +kernel
theorem dX5_add_29 : decode cX5_add 29 = .ok (.iload_n 2, 1) := by decide +kernel
theorem dX5_add_30 : decode cX5_add 30 = .ok (.iastore, 1) := by decide +kernel
theorem dX5_add_31 : decode cX5_add 31 = .ok (.aload_n 0, 1) := by decide +kernel
theorem dX5_add_32 : decode cX5_add 32 = .ok (.getfield 18, 3) := by decide +kernel
theorem dX5_add_35 : decode cX5_add 35 = .ok (.aload_n 0, 1) := by decide +kernel
theorem dX5_add_36 : decode cX5_add 36 = .ok (.getfield 30, 3) := by decide +kernel
theorem dX5_add_39 : decode cX5_add 39 = .ok (.iload_n 3, 1) := by decide +kernel
theorem dX5_add_40 : decode cX5_add 40 = .ok (.iastore, 1) := by decide +kernel
theorem dX5_add_41 : decode cX5_add 41 = .ok (.aload_n 0, 1) := by decide +kernel
theorem dX5_add_42 : decode cX5_add 42 = .ok (.getfield 21, 3) := by decide +kernel
theorem dX5_add_45 : decode cX5_add 45 = .ok (.aload_n 0, 1) := by decide +kernel
theorem dX5_add_46 : decode cX5_add 46 = .ok (.getfield 30, 3) := by decide +kernel
theorem dX5_add_49 : decode cX5_add 49 = .ok (.iload 4, 2) := by decide +kernel
theorem dX5_add_51 : decode cX5_add 51 = .ok (.iastore, 1) := by decide +kernel
theorem dX5_add_52 : decode cX5_add 52 = .ok (.aload_n 0, 1) := by decide +kernel
theorem dX5_add_53 : decode cX5_add 53 = .ok (.getfield 24, 3) := by decide +kernel
theorem dX5_add_56 : decode cX5_add 56 = .ok (.aload_n 0, 1) := by decide +kernel
theorem dX5_add_57 : decode cX5_add 57 = .ok (.getfield 30, 3) := by decide +kernel
theorem dX5_add_60 : decode cX5_add 60 = .ok (.iload 5, 2) := by decide +kernel
theorem dX5_add_62 : decode cX5_add 62 = .ok (.iastore, 1) := by decide +kernel
theorem dX5_add_63 : decode cX5_add 63 = .ok (.aload_n 0, 1) := by decide +kernel
theorem dX5_add_64 : decode cX5_add 64 = .ok (.getfield 27, 3) := by decide +kernel
theorem dX5_add_67 : decode cX5_add 67 = .ok (.aload_n 0, 1) := by decide +kernel
theorem dX5_add_68 : decode cX5_add 68 = .ok (.getfield 30, 3) := by decide +kernel
theorem dX5_add_71 : decode cX5_add 71 = .ok (.iload 6, 2) := by decide +kernel
theorem dX5_add_73 : decode cX5_add 73 = .ok (.iastore, 1) := by decide +kernel
theorem dX5_add_74 : decode cX5_add 74 = .ok (.aload_n 0, 1) := by decide +kernel
theorem dX5_add_75 : decode cX5_add 75 = .ok (.dup, 1) := by decide +kernel
theorem dX5_add_76 : decode cX5_add 76 = .ok (.getfield 30, 3) := by decide +kernel
theorem dX5_add_79 : decode cX5_add 79 = .ok (.iconst 1, 1) := by decide +kernel
theorem dX5_add_80 : decode cX5_add 80 = .ok (.iadd, 1) := by decide +kernel
theorem dX5_add_81 : decode cX5_add 81 = .ok (.putfield 30, 3) := by decide +kernel
theorem dX5_add_84 : decode cX5_add 84 = .ok (.aload_n 0, 1) := by decide +kernel
theorem dX5_add_85 : decode cX5_add 85 = .ok (.getfield 30, 3) := by decide +kernel
theorem dX5_add_88 : decode cX5_add 88 = .ok (.iconst 1, 1) := by decide +kernel
theorem dX5_add_89 : decode cX5_add 89 = .ok (.isub, 1) := by decide +kernel
theorem dX5_add_90 : decode cX5_add 90 = .ok (.ireturn, 1) := by decide +kernel
theorem dX6_init_0 : decode cX6_init 0 = .ok (.aload_n 0, 1) := by decide +kernel
theorem dX6_init_1 : decode cX6_init 1 = .ok (.invokespecial 3, 3) := by decide +kernel
theorem dX6_init_4 : decode cX6_init 4 = .ok (.aload_n 0, 1) := by decide +kernel
theorem dX6_init_5 : decode cX6_init 5 = .ok (.sipush 183, 3) := by decide +kernel
theorem dX6_init_8 : decode cX6_init 8 = .ok (.anewarray 11, 3) := by decide +kernel
theorem dX6_init_11 : decode cX6_init 11 = .ok (.putfield 13, 3) := by decide +kernel
theorem dX6_init_14 : decode cX6_init 14 = .ok (.aload_n 0, 1) := by decide +kernel
theorem dX6_init_15 : decode cX6_init 15 = .ok (.iconst 4, 1) := by decide +kernel
theorem dX6_init_16 : decode cX6_init 16 = .ok (.newarray .int, 2) := by decide +kernel
theorem dX6_init_18 : decode cX6_init 18 = .ok (.putfield 17, 3) := by decide +kernel
theorem dX6_init_21 : decode cX6_init 21 = .ok (.aload_n 0, 1) := by decide +kernel
theorem dX6_init_22 : decode cX6_init 22 = .ok (.sipush 1600, 3) := by decide +kernel
theorem dX6_init_25 : decode cX6_init 25 = .ok (.newarray .long, 2) := by decide +kernel
theorem dX6_init_27 : decode cX6_init 27 = .ok (.putfield 21, 3) := by decide +kernel
theorem dX6_init_30 : decode cX6_init 30 = .ok (.aload_n 0, 1) := by decide +kernel
theorem dX6_init_31 : decode cX6_init 31 = .ok (.bipush 60, 2) := by decide +kernel
theorem dX6_init_33 : decode cX6_init 33 = .ok (.newarray .int, 2) := by decide +kernel
theorem dX6_init_35 : decode cX6_init 35 = .ok (.putfield 25, 3) := by decide +kernel
theorem dX6_init_38 : decode cX6_init 38 = .ok (.aload_n 0, 1) := by decide +kernel
theorem dX6_init_39 : decode cX6_init 39 = .ok (.bipush 8, 2) := by decide +kernel
theorem dX6_init_41 : decode cX6_init 41 = .ok (.newarray .int, 2) := by decide +kernel
theorem dX6_init_43 : decode cX6_init 43 = .ok (.putfield 28, 3) := by decide +kernel
theorem dX6_init_46 : decode cX6_init 46 = .ok (.aload_n 0, 1) := by decide +kernel
theorem dX6_init_47 : decode cX6_init 47 = .ok (.aload_n 1, 1) := by decide +kernel
theorem dX6_init_48 : decode cX6_init 48 = .ok (.putfield 31, 3) := by decide +kernel
theorem dX6_init_51 : decode cX6_init 51 = .ok (.aload_n 0, 1) := by decide +kernel
theorem dX6_init_52 : decode cX6_init 52 = .ok (.aload_n 2, 1) := by decide +kernel
theorem dX6_init_53 : decode cX6_init 53 = .ok (.putfield 35, 3) := by decide +kernel
theorem dX6_init_56 : decode cX6_init 56 = .ok (.iconst 0, 1) := by decide +kernel
theorem dX6_init_57 : decode cX6_init 57 = .ok (.istore_n 3, 1) := by decide +kernel
theorem dX6_init_58 : decode cX6_init 58 = .ok (.iload_n 3, 1) := by decide +kernel
theorem dX6_init_59 : decode cX6_init 59 = .ok (.aload_n 0, 1) := by decide +kernel
theorem dX6_init_60 : decode cX6_init 60 = .ok (.getfield 13, 3) := by decide +kernel
theorem dX6_init_63 : decode cX6_init 63 = .ok (.arraylength, 1) := by decide +kernel
theorem dX6_init_64 : decode cX6_init 64 = .ok (.if_icmp .ge 22, 3) := by decide +kernel
theorem dX6_init_67 : decode cX6_init 67 = .ok (.aload_n 0, 1) := by decide +kernel
theorem dX6_init_68 : decode cX6_init 68 = .ok (.getfield 13, 3) := by decide +kernel
theorem dX6_init_71 : decode cX6_init 71 = .ok (.iload_n 3, 1) := by decide +kernel
theorem dX6_init_72 : decode cX6_init 72 = .ok (.new 11, 3) := by decide +kernel
theorem dX6_init_75 : decode cX6_init 75 = .ok (.dup, 1) := by decide +kernel
theorem dX6_init_76 : decode cX6_init 76 = .ok (.invokespecial 39, 3) := by decide +kernel
theorem dX6_init_79 : decode cX6_init 79 = .ok (.aastore, 1) := by decide +kernel
theorem dX6_init_80 : decode cX6_init 80 = .ok (.iinc 3 1, 3) := by decide +kernel
theorem dX6_init_83 : decode cX6_init 83 = .ok (.goto (-25), 3) := by decide +kernel
theorem dX6_init_86 : decode cX6_init 86 = .ok (.return_, 1) := by decide +kernel
theorem dX6_clear_0 : decode cX6_clear 0 = .ok (.aload_n 0, 1) := by decide +kernel
theorem dX6_clear_1 : decode cX6_clear 1 = .ok (.iconst 0, 1) := by decide +kernel
theorem dX6_clear_2 : decode cX6_clear 2 = .ok (.putfield 40, 3) := by decide +kernel
theorem dX6_clear_5 : decode cX6_clear 5 = .ok (.aload_n 0, 1) := by decide +kernel
theorem dX6_clear_6 : decode cX6_clear 6 = .ok (.iconst 0, 1) := by decide +kernel
theorem dX6_clear_7 : decode cX6_clear 7 = .ok (.putfield 44, 3) := by decide +kernel
theorem dX6_clear_10 : decode cX6_clear 10 = .ok (.aload_n 0, 1) := by decide +kernel
theorem dX6_clear_11 : decode cX6_clear 11 = .ok (.iconst 0, 1) := by decide +kernel
theorem dX6_clear_12 : decode cX6_clear 12 = .ok (.putfield 47, 3) := by decide +kernel
theorem dX6_clear_15 : decode cX6_clear 15 = .ok (.aload_n 0, 1) := by decide +kernel
theorem dX6_clear_16 : decode cX6_clear 16 = .ok (.getfield 21, 3) := by decide +kernel
theorem dX6_clear_19 : decode cX6_clear 19 = .ok (.lconst 0, 1) := by decide +kernel
theorem dX6_clear_20 : decode cX6_clear 20 = .ok (.invokestatic 50, 3) := by decide +kernel
theorem dX6_clear_23 : decode cX6_clear 23 = .ok (.aload_n 0, 1) := by decide +kernel
theorem dX6_clear_24 : decode cX6_clear 24 = .ok (.getfield 28, 3) := by decide +kernel
theorem dX6_clear_27 : decode cX6_clear 27 = .ok (.iconst 0, 1) := by decide +kernel
theorem dX6_clear_28 : decode cX6_clear 28 = .ok (.invokestatic 56, 3) := by decide +kernel
theorem dX6_clear_31 : decode cX6_clear 31 = .ok (.return_, 1) := by decide +kernel
theorem dX6_copyFrom_0 : decode cX6_copyFrom 0 = .ok (.aload_n 0, 1) := by decide +kernel
theorem dX6_copyFrom_1 : decode cX6_copyFrom 1 = .ok (.aload_n 1, 1) := by decide +kernel
theorem dX6_copyFrom_2 : decode cX6_copyFrom 2 = .ok (.getfield 44, 3) := by decide +kernel
theorem dX6_copyFrom_5 : decode cX6_copyFrom 5 = .ok (.putfield 44, 3) := by decide +kernel
theorem dX6_copyFrom_8 : decode cX6_copyFrom 8 = .ok (.aload_n 1, 1) := by decide +kernel
theorem dX6_copyFrom_9 : decode cX6_copyFrom 9 = .ok (.getfield 21, 3) := by decide +kernel
theorem dX6_copyFrom_12 : decode cX6_copyFrom 12 = .ok (.iconst 0, 1) := by decide +kernel
theorem dX6_copyFrom_13 : decode cX6_copyFrom 13 = .ok (.aload_n 0, 1) := by decide +kernel
theorem dX6_copyFrom_14 : decode cX6_copyFrom 14 = .ok (.getfield 21, 3) := by decide +kernel
theorem dX6_copyFrom_17 : decode cX6_copyFrom 17 = .ok (.iconst 0, 1) := by decide +kernel
theorem dX6_copyFrom_18 : decode cX6_copyFrom 18 = .ok (.aload_n 0, 1) := by decide +kernel
theorem dX6_copyFrom_19 : decode cX6_copyFrom 19 = .ok (.getfield 21, 3) := by decide +kernel
theorem dX6_copyFrom_22 : decode cX6_copyFrom 22 = .ok (.arraylength, 1) := by decide +kernel
theorem dX6_copyFrom_23 : decode cX6_copyFrom 23 = .ok (.invokestatic 59, 3) := by decide +kernel
theorem dX6_copyFrom_26 : decode cX6_copyFrom 26 = .ok (.aload_n 1, 1) := by decide +kernel
theorem dX6_copyFrom_27 : decode cX6_copyFrom 27 = .ok (.getfield 28, 3) := by decide +kernel
theorem dX6_copyFrom_30 : decode cX6_copyFrom 30 = .ok (.iconst 0, 1) := by decide +kernel
theorem dX6_copyFrom_31 : decode cX6_copyFrom 31 = .ok (.aload_n 0, 1) := by decide +kernel
theorem dX6_copyFrom_32 : decode cX6_copyFrom 32 = .ok (.getfield 28, 3) := by decide +kernel
theorem dX6_copyFrom_35 : decode cX6_copyFrom 35 = .ok (.iconst 0, 1) := by decide +kernel
theorem dX6_copyFrom_36 : decode cX6_copyFrom 36 = .ok (.aload_n 0, 1) := by decide +kernel
theorem dX6_copyFrom_37 : decode cX6_copyFrom 37 = .ok (.getfield 28, 3) := by decide +kernel
theorem dX6_copyFrom_40 : decode cX6_copyFrom 40 = .ok (.arraylength, 1) := by decide +kernel
theorem dX6_copyFrom_41 : decode cX6_copyFrom 41 = .ok (.invokestatic 59, 3) := by decide +kernel
theorem dX6_copyFrom_44 : decode cX6_copyFrom 44 = .ok (.return_, 1) := by decide +kernel
theorem dX6_startStep_0 : decode cX6_startStep 0 = .ok (.aload_n 0, 1) := by decide +kernel
theorem dX6_startStep_1 : decode cX6_startStep 1 = .ok (.iconst 0, 1) := by decide +kernel
theorem dX6_startStep_2 : decode cX6_startStep 2 = .ok (.putfield 40, 3) := by decide +kernel
theorem dX6_startStep_5 : decode cX6_startStep 5 = .ok (.aload_n 0, 1) := by decide +kernel
theorem dX6_startStep_6 : decode cX6_startStep 6 = .ok (.iconst 0, 1) := by decide +kernel
theorem dX6_startStep_7 : decode cX6_startStep 7 = .ok (.putfield 47, 3) := by decide +kernel
theorem dX6_startStep_10 : decode cX6_startStep 10 = .ok (.return_, 1) := by decide +kernel
theorem dX6_isBusy_0 : decode cX6_isBusy 0 = .ok (.aload_n 0, 1) := by decide +kernel
theorem dX6_isBusy_1 : decode cX6_isBusy 1 = .ok (.getfield 40, 3) := by decide +kernel
theorem dX6_isBusy_4 : decode cX6_isBusy 4 = .ok (.ifCond .le 7, 3) := by decide +kernel
theorem dX6_isBusy_7 : decode cX6_isBusy 7 = .ok (.iconst 1, 1) := by decide +kernel
theorem dX6_isBusy_8 : decode cX6_isBusy 8 = .ok (.goto 4, 3) := by decide +kernel
theorem dX6_isBusy_11 : decode cX6_isBusy 11 = .ok (.iconst 0, 1) := by decide +kernel
theorem dX6_isBusy_12 : decode cX6_isBusy 12 = .ok (.ireturn, 1) := by decide +kernel
theorem dX6_stop_0 : decode cX6_stop 0 = .ok (.aload_n 0, 1) := by decide +kernel
theorem dX6_stop_1 : decode cX6_stop 1 = .ok (.iconst 0, 1) := by decide +kernel
theorem dX6_stop_2 : decode cX6_stop 2 = .ok (.putfield 40, 3) := by decide +kernel
theorem dX6_stop_5 : decode cX6_stop 5 = .ok (.return_, 1) := by decide +kernel
theorem dX6_push_0 : decode cX6_push 0 = .ok (.aload_n 0, 1) := by decide +kernel
theorem dX6_push_1 : decode cX6_push 1 = .ok (.getfield 40, 3) := by decide +kernel
theorem dX6_push_4 : decode cX6_push 4 = .ok (.sipush 183, 3) := by decide +kernel
theorem dX6_push_7 : decode cX6_push 7 = .ok (.if_icmp .lt 20, 3) := by decide +kernel
theorem dX6_push_10 : decode cX6_push 10 = .ok (.aload_n 0, 1) := by decide +kernel
theorem dX6_push_11 : decode cX6_push 11 = .ok (.getfield 31, 3) := by decide +kernel
theorem dX6_push_14 : decode cX6_push 14 = .ok (.iconst 1, 1) := by decide +kernel
theorem dX6_push_15 : decode cX6_push 15 = .ok (.putfield 65, 3) := by decide +kernel
theorem dX6_push_18 : decode cX6_push 18 = .ok (.aload_n 0, 1) := by decide +kernel
theorem dX6_push_19 : decode cX6_push 19 = .ok (.getfield 13, 3) := by decide +kernel
theorem dX6_push_22 : decode cX6_push 22 = .ok (.sipush 182, 3) := by decide +kernel
theorem dX6_push_25 : decode cX6_push 25 = .ok (.aaload, 1) := by decide +kernel
theorem dX6_push_26 : decode cX6_push 26 = .ok (.areturn, 1) := by decide +kernel
theorem dX6_push_27 : decode cX6_push 27 = .ok (.aload_n 0, 1) := by decide +kernel
theorem dX6_push_28 : decode cX6_push 28 = .ok (.getfield 13, 3) := by decide +kernel
theorem dX6_push_31 : decode cX6_push 31 = .ok (.aload_n 0, 1) := by decide +kernel
theorem dX6_push_32 : decode cX6_push 32 = .ok (.getfield 40, 3) := by decide +kernel
theorem dX6_push_35 : decode cX6_push 35 = .ok (.aaload, 1) := by decide +kernel
theorem dX6_push_36 : decode cX6_push 36 = .ok (.astore_n 2, 1) := by decide +kernel
theorem dX6_push_37 : decode cX6_push 37 = .ok (.aload_n 0, 1) := by decide +kernel
theorem dX6_push_38 : decode cX6_push 38 = .ok (.dup, 1) := by decide +kernel
theorem dX6_push_39 : decode cX6_push 39 = .ok (.getfield 40, 3) := by decide +kernel
theorem dX6_push_42 : decode cX6_push 42 = .ok (.iconst 1, 1) := by decide +kernel
theorem dX6_push_43 : decode cX6_push 43 = .ok (.iadd, 1) := by decide +kernel
theorem dX6_push_44 : decode cX6_push 44 = .ok (.putfield 40, 3) := by decide +kernel
theorem dX6_push_47 : decode cX6_push 47 = .ok (.aload_n 2, 1) := by decide +kernel
theorem dX6_push_48 : decode cX6_push 48 = .ok (.iload_n 1, 1) := by decide +kernel
theorem dX6_push_49 : decode cX6_push 49 = .ok (.putfield 71, 3) := by decide +kernel
theorem dX6_push_52 : decode cX6_push 52 = .ok (.aload_n 2, 1) := by decide +kernel
theorem dX6_push_53 : decode cX6_push 53 = .ok (.iconst 0, 1) := by decide +kernel
theorem dX6_push_54 : decode cX6_push 54 = .ok (.putfield 74, 3) := by decide +kernel
theorem dX6_push_57 : decode cX6_push 57 = .ok (.aload_n 2, 1) := by decide +kernel
theorem dX6_push_58 : decode cX6_push 58 = .ok (.iconst 0, 1) := by decide +kernel
theorem dX6_push_59 : decode cX6_push 59 = .ok (.putfield 77, 3) := by decide +kernel
theorem dX6_push_62 : decode cX6_push 62 = .ok (.aload_n 2, 1) := by decide +kernel
theorem dX6_push_63 : decode cX6_push 63 = .ok (.iconst 0, 1) := by decide +kernel
theorem dX6_push_64 : decode cX6_push 64 = .ok (.putfield 80, 3) := by decide +kernel
theorem dX6_push_67 : decode cX6_push 67 = .ok (.aload_n 2, 1) := by decide +kernel
theorem dX6_push_68 : decode cX6_push 68 = .ok (.lconst 0, 1) := by decide +kernel
theorem dX6_push_69 : decode cX6_push 69 = .ok (.putfield 83, 3) := by decide +kernel
theorem dX6_push_72 : decode cX6_push 72 = .ok (.aload_n 2, 1) := by decide +kernel
theorem dX6_push_73 : decode cX6_push 73 = .ok (.lconst 0, 1) := by decide +kernel
theorem dX6_push_74 : decode cX6_push 74 = .ok (.putfield 87, 3) := by decide +kernel
theorem dX6_push_77 : decode cX6_push 77 = .ok (.aload_n 2, 1) := by decide +kernel
theorem dX6_push_78 : decode cX6_push 78 = .ok (.areturn, 1) := by decide +kernel
theorem dX6_tellToken_0 : decode cX6_tellToken 0 = .ok (.aload_n 0, 1) := by decide +kernel
theorem dX6_tellToken_1 : decode cX6_tellToken 1 = .ok (.getfield 31, 3) := by decide +kernel
theorem dX6_tellToken_4 : decode cX6_tellToken 4 = .ok (.iload_n 1, 1) := by decide +kernel
theorem dX6_tellToken_5 : decode cX6_tellToken 5 = .ok (.iload_n 2, 1) := by decide +kernel
theorem dX6_tellToken_6 : decode cX6_tellToken 6 = .ok (.iload_n 3, 1) := by decide +kernel
theorem dX6_tellToken_7 : decode cX6_tellToken 7 = .ok (.iload 4, 2) := by decide +kernel
theorem dX6_tellToken_9 : decode cX6_tellToken 9 = .ok (.lload 5, 2) := by decide +kernel
theorem dX6_tellToken_11 : decode cX6_tellToken 11 = .ok (.lload 7, 2) := by decide +kernel
theorem dX6_tellToken_13 : decode cX6_tellToken 13 = .ok (.invokevirtual 90, 3) := by decide +kernel
theorem dX6_tellToken_16 : decode cX6_tellToken 16 = .ok (.istore 9, 2) := by decide +kernel
theorem dX6_tellToken_18 : decode cX6_tellToken 18 = .ok (.iload 9, 2) := by decide +kernel
theorem dX6_tellToken_20 : decode cX6_tellToken 20 = .ok (.iconst (-1), 1) := by decide +kernel
theorem dX6_tellToken_21 : decode cX6_tellToken 21 = .ok (.if_icmp .eq 13, 3) := by decide +kernel
theorem dX6_tellToken_24 : decode cX6_tellToken 24 = .ok (.aload_n 0, 1) := by decide +kernel
theorem dX6_tellToken_25 : decode cX6_tellToken 25 = .ok (.iconst 0, 1) := by decide +kernel
theorem dX6_tellToken_26 : decode cX6_tellToken 26 = .ok (.invokevirtual 94, 3) := by decide +kernel
theorem dX6_tellToken_29 : decode cX6_tellToken 29 = .ok (.iload 9, 2) := by decide +kernel
theorem dX6_tellToken_31 : decode cX6_tellToken 31 = .ok (.putfield 74, 3) := by decide +kernel
theorem dX6_tellToken_34 : decode cX6_tellToken 34 = .ok (.return_, 1) := by decide +kernel
theorem dX6_tellEqual_0 : decode cX6_tellEqual 0 = .ok (.aload_n 0, 1) := by decide +kernel
theorem dX6_tellEqual_1 : decode cX6_tellEqual 1 = .ok (.getfield 31, 3) := by decide +kernel
theorem dX6_tellEqual_4 : decode cX6_tellEqual 4 = .ok (.iload_n 1, 1) := by decide +kernel
theorem dX6_tellEqual_5 : decode cX6_tellEqual 5 = .ok (.iload_n 2, 1) := by decide +kernel
theorem dX6_tellEqual_6 : decode cX6_tellEqual 6 = .ok (.invokevirtual 98, 3) := by decide +kernel
theorem dX6_tellEqual_9 : decode cX6_tellEqual 9 = .ok (.istore_n 3, 1) := by decide +kernel
theorem dX6_tellEqual_10 : decode cX6_tellEqual 10 = .ok (.iload_n 3, 1) := by decide +kernel
theorem dX6_tellEqual_11 : decode cX6_tellEqual 11 = .ok (.iconst (-1), 1) := by decide +kernel
theorem dX6_tellEqual_12 : decode cX6_tellEqual 12 = .ok (.if_icmp .ne 4, 3) := by decide +kernel
theorem dX6_tellEqual_15 : decode cX6_tellEqual 15 = .ok (.return_, 1) := by decide +kernel
theorem dX6_tellEqual_16 : decode cX6_tellEqual 16 = .ok (.aload_n 0, 1) := by decide +kernel
theorem dX6_tellEqual_17 : decode cX6_tellEqual 17 = .ok (.iconst 1, 1) := by decide +kernel
theorem dX6_tellEqual_18 : decode cX6_tellEqual 18 = .ok (.invokevirtual 94, 3) := by decide +kernel
theorem dX6_tellEqual_21 : decode cX6_tellEqual 21 = .ok (.astore 4, 2) := by decide +kernel
theorem dX6_tellEqual_23 : decode cX6_tellEqual 23 = .ok (.iconst 0, 1) := by decide +kernel
theorem dX6_tellEqual_24 : decode cX6_tellEqual 24 = .ok (.istore 5, 2) := by decide +kernel
theorem dX6_tellEqual_26 : decode cX6_tellEqual 26 = .ok (.iload 5, 2) := by decide +kernel
theorem dX6_tellEqual_28 : decode cX6_tellEqual 28 = .ok (.aload_n 0, 1) := by decide +kernel
theorem dX6_tellEqual_29 : decode cX6_tellEqual 29 = .ok (.getfield 31, 3) := by decide +kernel
theorem dX6_tellEqual_32 : decode cX6_tellEqual 32 = .ok (.getfield 102, 3) := by decide +kernel
theorem dX6_tellEqual_35 : decode cX6_tellEqual 35 = .ok (.if_icmp .ge 52, 3) := by decide +kernel
theorem dX6_tellEqual_38 : decode cX6_tellEqual 38 = .ok (.aload_n 0, 1) := by decide +kernel
theorem dX6_tellEqual_39 : decode cX6_tellEqual 39 = .ok (.getfield 31, 3) := by decide +kernel
theorem dX6_tellEqual_42 : decode cX6_tellEqual 42 = .ok (.iload 5, 2) := by decide +kernel
theorem dX6_tellEqual_44 : decode cX6_tellEqual 44 = .ok (.iload_n 3, 1) := by decide +kernel
theorem dX6_tellEqual_45 : decode cX6_tellEqual 45 = .ok (.invokevirtual 105, 3) := by decide +kernel
theorem dX6_tellEqual_48 : decode cX6_tellEqual 48 = .ok (.ifCond .eq 33, 3) := by decide +kernel
theorem dX6_tellEqual_51 : decode cX6_tellEqual 51 = .ok (.aload 4, 2) := by decide +kernel
theorem dX6_tellEqual_53 : decode cX6_tellEqual 53 = .ok (.dup, 1) := by decide +kernel
theorem dX6_tellEqual_54 : decode cX6_tellEqual 54 = .ok (.getfield 83, 3) := by decide +kernel
theorem dX6_tellEqual_57 : decode cX6_tellEqual 57 = .ok (.iload 5, 2) := by decide +kernel
theorem dX6_tellEqual_59 : decode cX6_tellEqual 59 = .ok (.invokestatic 109, 3) := by decide +kernel
theorem dX6_tellEqual_62 : decode cX6_tellEqual 62 = .ok (.lor, 1) := by decide +kernel
theorem dX6_tellEqual_63 : decode cX6_tellEqual 63 = .ok (.putfield 83, 3) := by decide +kernel
theorem dX6_tellEqual_66 : decode cX6_tellEqual 66 = .ok (.aload 4, 2) := by decide +kernel
theorem dX6_tellEqual_68 : decode cX6_tellEqual 68 = .ok (.dup, 1) := by decide +kernel
theorem dX6_tellEqual_69 : decode cX6_tellEqual 69 = .ok (.getfield 87, 3) := by decide +kernel
theorem dX6_tellEqual_72 : decode cX6_tellEqual 72 = .ok (.iload 5, 2) := by decide +kernel
theorem dX6_tellEqual_74 : decode cX6_tellEqual 74 = .ok (.invokestatic 113, 3) := by decide +kernel
theorem dX6_tellEqual_77 : decode cX6_tellEqual 77 = .ok (.lor, 1) := by decide +kernel
theorem dX6_tellEqual_78 : decode cX6_tellEqual 78 = .ok (.putfield 87, 3) := by decide +kernel
theorem dX6_tellEqual_81 : decode cX6_tellEqual 81 = .ok (.iinc 5 1, 3) := by decide +kernel
theorem dX6_tellEqual_84 : decode cX6_tellEqual 84 = .ok (.goto (-58), 3) := by decide +kernel
theorem dX6_tellEqual_87 : decode cX6_tellEqual 87 = .ok (.return_, 1) := by decide +kernel
theorem dX6_advance_0 : decode cX6_advance 0 = .ok (.aload_n 0, 1) := by decide +kernel
theorem dX6_advance_1 : decode cX6_advance 1 = .ok (.getfield 40, 3) := by decide +kernel
theorem dX6_advance_4 : decode cX6_advance 4 = .ok (.ifCond .le 13, 3) := by decide +kernel
theorem dX6_advance_7 : decode cX6_advance 7 = .ok (.aload_n 0, 1) := by decide +kernel
theorem dX6_advance_8 : decode cX6_advance 8 = .ok (.getfield 40, 3) := by decide +kernel
theorem dX6_advance_11 : decode cX6_advance 11 = .ok (.sipush 183, 3) := by decide +kernel
theorem dX6_advance_14 : decode cX6_advance 14 = .ok (.if_icmp .le 4, 3) := by decide +kernel
theorem dX6_advance_17 : decode cX6_advance 17 = .ok (.return_, 1) := by decide +kernel
theorem dX6_advance_18 : decode cX6_advance 18 = .ok (.aload_n 0, 1) := by decide +kernel
theorem dX6_advance_19 : decode cX6_advance 19 = .ok (.getfield 13, 3) := by decide +kernel
theorem dX6_advance_22 : decode cX6_advance 22 = .ok (.aload_n 0, 1) := by decide +kernel
theorem dX6_advance_23 : decode cX6_advance 23 = .ok (.getfield 40, 3) := by decide +kernel
theorem dX6_advance_26 : decode cX6_advance 26 = .ok (.iconst 1, 1) := by decide +kernel
theorem dX6_advance_27 : decode cX6_advance 27 = .ok (.isub, 1) := by decide +kernel
theorem dX6_advance_28 : decode cX6_advance 28 = .ok (.aaload, 1) := by decide +kernel
theorem dX6_advance_29 : decode cX6_advance 29 = .ok (.astore_n 1, 1) := by decide +kernel
theorem dX6_advance_30 : decode cX6_advance 30 = .ok (.aload_n 1, 1) := by decide +kernel
theorem dX6_advance_31 : decode cX6_advance 31 = .ok (.getfield 71, 3) := by decide +kernel
theorem dX6_advance_34 : decode cX6_advance 34 = .ok (.lookupswitch 42 #[(0, 26), (1, 34)], 26) := by decide +kernel
theorem dX6_advance_60 : decode cX6_advance 60 = .ok (.aload_n 0, 1) := by decide +kernel
theorem dX6_advance_61 : decode cX6_advance 61 = .ok (.aload_n 1, 1) := by decide +kernel
theorem dX6_advance_62 : decode cX6_advance 62 = .ok (.invokevirtual 116, 3) := by decide +kernel
theorem dX6_advance_65 : decode cX6_advance 65 = .ok (.goto 16, 3) := by decide +kernel
theorem dX6_advance_68 : decode cX6_advance 68 = .ok (.aload_n 0, 1) := by decide +kernel
theorem dX6_advance_69 : decode cX6_advance 69 = .ok (.aload_n 1, 1) := by decide +kernel
theorem dX6_advance_70 : decode cX6_advance 70 = .ok (.invokevirtual 120, 3) := by decide +kernel
theorem dX6_advance_73 : decode cX6_advance 73 = .ok (.goto 8, 3) := by decide +kernel
theorem dX6_advance_76 : decode cX6_advance 76 = .ok (.aload_n 0, 1) := by decide +kernel
theorem dX6_advance_77 : decode cX6_advance 77 = .ok (.aload_n 1, 1) := by decide +kernel
theorem dX6_advance_78 : decode cX6_advance 78 = .ok (.invokevirtual 123, 3) := by decide +kernel
theorem dX6_advance_81 : decode cX6_advance 81 = .ok (.return_, 1) := by decide +kernel
theorem dX6_advanceActive_0 : decode cX6_advanceActive 0 = .ok (.aload_n 1, 1) := by decide +kernel
theorem dX6_advanceActive_1 : decode cX6_advanceActive 1 = .ok (.getfield 74, 3) := by decide +kernel
theorem dX6_advanceActive_4 : decode cX6_advanceActive 4 = .ok (.istore_n 2, 1) := by decide +kernel
theorem dX6_advanceActive_5 : decode cX6_advanceActive 5 = .ok (.aload_n 0, 1) := by decide +kernel
theorem dX6_advanceActive_6 : decode cX6_advanceActive 6 = .ok (.getfield 31, 3) := by decide +kernel
theorem dX6_advanceActive_9 : decode cX6_advanceActive 9 = .ok (.getfield 126, 3) := by decide +kernel
theorem dX6_advanceActive_12 : decode cX6_advanceActive 12 = .ok (.iload_n 2, 1) := by decide +kernel
theorem dX6_advanceActive_13 : decode cX6_advanceActive 13 = .ok (.baload, 1) := by decide +kernel
theorem dX6_advanceActive_14 : decode cX6_advanceActive 14 = .ok (.ifCond .eq 14, 3) := by decide +kernel
theorem dX6_advanceActive_17 : decode cX6_advanceActive 17 = .ok (.aload_n 0, 1) := by decide +kernel
theorem dX6_advanceActive_18 : decode cX6_advanceActive 18 = .ok (.getfield 44, 3) := by decide +kernel
theorem dX6_advanceActive_21 : decode cX6_advanceActive 21 = .ok (.sipush 200, 3) := by decide +kernel
theorem dX6_advanceActive_24 : decode cX6_advanceActive 24 = .ok (.imul, 1) := by decide +kernel
theorem dX6_advanceActive_25 : decode cX6_advanceActive 25 = .ok (.goto 4, 3) := by decide +kernel
theorem dX6_advanceActive_28 : decode cX6_advanceActive 28 = .ok (.iconst 0, 1) := by decide +kernel
theorem dX6_advanceActive_29 : decode cX6_advanceActive 29 = .ok (.istore_n 3, 1) := by decide +kernel
theorem dX6_advanceActive_30 : decode cX6_advanceActive 30 = .ok (.aload_n 1, 1) := by decide +kernel
theorem dX6_advanceActive_31 : decode cX6_advanceActive 31 = .ok (.getfield 77, 3) := by decide +kernel
theorem dX6_advanceActive_34 : decode cX6_advanceActive 34 = .ok (.iload_n 3, 1) := by decide +kernel
theorem dX6_advanceActive_35 : decode cX6_advanceActive 35 = .ok (.if_icmp .ge 221, 3) := by decide +kernel
theorem dX6_advanceActive_38 : decode cX6_advanceActive 38 = .ok (.aload_n 1, 1) := by decide +kernel
theorem dX6_advanceActive_39 : decode cX6_advanceActive 39 = .ok (.getfield 77, 3) := by decide +kernel
theorem dX6_advanceActive_42 : decode cX6_advanceActive 42 = .ok (.istore 4, 2) := by decide +kernel
theorem dX6_advanceActive_44 : decode cX6_advanceActive 44 = .ok (.iload 4, 2) := by decide +kernel
theorem dX6_advanceActive_46 : decode cX6_advanceActive 46 = .ok (.sipush 200, 3) := by decide +kernel
theorem dX6_advanceActive_49 : decode cX6_advanceActive 49 = .ok (.idiv, 1) := by decide +kernel
theorem dX6_advanceActive_50 : decode cX6_advanceActive 50 = .ok (.istore 5, 2) := by decide +kernel
theorem dX6_advanceActive_52 : decode cX6_advanceActive 52 = .ok (.aload_n 0, 1) := by decide +kernel
theorem dX6_advanceActive_53 : decode cX6_advanceActive 53 = .ok (.getfield 35, 3) := by decide +kernel
theorem dX6_advanceActive_56 : decode cX6_advanceActive 56 = .ok (.iload 5, 2) := by decide +kernel
theorem dX6_advanceActive_58 : decode cX6_advanceActive 58 = .ok (.aaload, 1) := by decide +kernel
theorem dX6_advanceActive_59 : decode cX6_advanceActive 59 = .ok (.astore 6, 2) := by decide +kernel
theorem dX6_advanceActive_61 : decode cX6_advanceActive 61 = .ok (.iload 4, 2) := by decide +kernel
theorem dX6_advanceActive_63 : decode cX6_advanceActive 63 = .ok (.bipush 100, 2) := by decide +kernel
theorem dX6_advanceActive_65 : decode cX6_advanceActive 65 = .ok (.idiv, 1) := by decide +kernel
theorem dX6_advanceActive_66 : decode cX6_advanceActive 66 = .ok (.iconst 2, 1) := by decide +kernel
theorem dX6_advanceActive_67 : decode cX6_advanceActive 67 = .ok (.irem, 1) := by decide +kernel
theorem dX6_advanceActive_68 : decode cX6_advanceActive 68 = .ok (.istore 7, 2) := by decide +kernel
theorem dX6_advanceActive_70 : decode cX6_advanceActive 70 = .ok (.iload 4, 2) := by decide +kernel
theorem dX6_advanceActive_72 : decode cX6_advanceActive 72 = .ok (.bipush 100, 2) := by decide +kernel
theorem dX6_advanceActive_74 : decode cX6_advanceActive 74 = .ok (.irem, 1) := by decide +kernel
theorem dX6_advanceActive_75 : decode cX6_advanceActive 75 = .ok (.istore 8, 2) := by decide +kernel
theorem dX6_advanceActive_77 : decode cX6_advanceActive 77 = .ok (.aload 6, 2) := by decide +kernel
theorem dX6_advanceActive_79 : decode cX6_advanceActive 79 = .ok (.getfield 130, 3) := by decide +kernel
theorem dX6_advanceActive_82 : decode cX6_advanceActive 82 = .ok (.iconst 2, 1) := by decide +kernel
theorem dX6_advanceActive_83 : decode cX6_advanceActive 83 = .ok (.if_icmp .ge 7, 3) := by decide +kernel
theorem dX6_advanceActive_86 : decode cX6_advanceActive 86 = .ok (.iconst 1, 1) := by decide +kernel
theorem dX6_advanceActive_87 : decode cX6_advanceActive 87 = .ok (.goto 10, 3) := by decide +kernel
theorem dX6_advanceActive_90 : decode cX6_advanceActive 90 = .ok (.aload_n 0, 1) := by decide +kernel
theorem dX6_advanceActive_91 : decode cX6_advanceActive 91 = .ok (.getfield 31, 3) := by decide +kernel
theorem dX6_advanceActive_94 : decode cX6_advanceActive 94 = .ok (.getfield 102, 3) := by decide +kernel
theorem dX6_advanceActive_97 : decode cX6_advanceActive 97 = .ok (.istore 9, 2) := by decide +kernel
theorem dX6_advanceActive_99 : decode cX6_advanceActive 99 = .ok (.iload 7, 2) := by decide +kernel
theorem dX6_advanceActive_101 : decode cX6_advanceActive 101 = .ok (.aload 6, 2) := by decide +kernel
theorem dX6_advanceActive_103 : decode cX6_advanceActive 103 = .ok (.getfield 130, 3) := by decide +kernel
theorem dX6_advanceActive_106 : decode cX6_advanceActive 106 = .ok (.if_icmp .ge 30, 3) := by decide +kernel
theorem dX6_advanceActive_109 : decode cX6_advanceActive 109 = .ok (.aload 6, 2) := by decide +kernel
theorem dX6_advanceActive_111 : decode cX6_advanceActive 111 = .ok (.getfield 135, 3) := by decide +kernel
theorem dX6_advanceActive_114 : decode cX6_advanceActive 114 = .ok (.iload 7, 2) := by decide +kernel
theorem dX6_advanceActive_116 : decode cX6_advanceActive 116 = .ok (.iaload, 1) := by decide +kernel
theorem dX6_advanceActive_117 : decode cX6_advanceActive 117 = .ok (.aload_n 0, 1) := by decide +kernel
theorem dX6_advanceActive_118 : decode cX6_advanceActive 118 = .ok (.getfield 31, 3) := by decide +kernel
theorem dX6_advanceActive_121 : decode cX6_advanceActive 121 = .ok (.getfield 138, 3) := by decide +kernel
theorem dX6_advanceActive_124 : decode cX6_advanceActive 124 = .ok (.iload_n 2, 1) := by decide +kernel
theorem dX6_advanceActive_125 : decode cX6_advanceActive 125 = .ok (.iaload, 1) := by decide +kernel
theorem dX6_advanceActive_126 : decode cX6_advanceActive 126 = .ok (.if_icmp .ne 10, 3) := by decide +kernel
theorem dX6_advanceActive_129 : decode cX6_advanceActive 129 = .ok (.iload 8, 2) := by decide +kernel
theorem dX6_advanceActive_131 : decode cX6_advanceActive 131 = .ok (.iload 9, 2) := by decide +kernel
theorem dX6_advanceActive_133 : decode cX6_advanceActive 133 = .ok (.if_icmp .lt 18, 3) := by decide +kernel
theorem dX6_advanceActive_136 : decode cX6_advanceActive 136 = .ok (.aload_n 1, 1) := by decide +kernel
theorem dX6_advanceActive_137 : decode cX6_advanceActive 137 = .ok (.iload 4, 2) := by decide +kernel
theorem dX6_advanceActive_139 : decode cX6_advanceActive 139 = .ok (.iload 8, 2) := by decide +kernel
theorem dX6_advanceActive_141 : decode cX6_advanceActive 141 = .ok (.isub, 1) := by decide +kernel
theorem dX6_advanceActive_142 : decode cX6_advanceActive 142 = .ok (.bipush 100, 2) := by decide +kernel
theorem dX6_advanceActive_144 : decode cX6_advanceActive 144 = .ok (.iadd, 1) := by decide +kernel
theorem dX6_advanceActive_145 : decode cX6_advanceActive 145 = .ok (.putfield 77, 3) := by decide +kernel
theorem dX6_advanceActive_148 : decode cX6_advanceActive 148 = .ok (.goto (-118), 3) := by decide +kernel
theorem dX6_advanceActive_151 : decode cX6_advanceActive 151 = .ok (.aload_n 1, 1) := by decide +kernel
theorem dX6_advanceActive_152 : decode cX6_advanceActive 152 = .ok (.iload 4, 2) := by decide +kernel
theorem dX6_advanceActive_154 : decode cX6_advanceActive 154 = .ok (.iconst 1, 1) := by decide +kernel
theorem dX6_advanceActive_155 : decode cX6_advanceActive 155 = .ok (.iadd, 1) := by decide +kernel
theorem dX6_advanceActive_156 : decode cX6_advanceActive 156 = .ok (.putfield 77, 3) := by decide +kernel
theorem dX6_advanceActive_159 : decode cX6_advanceActive 159 = .ok (.aload 6, 2) := by decide +kernel
theorem dX6_advanceActive_161 : decode cX6_advanceActive 161 = .ok (.getfield 130, 3) := by decide +kernel
theorem dX6_advanceActive_164 : decode cX6_advanceActive 164 = .ok (.iconst 2, 1) := by decide +kernel
theorem dX6_advanceActive_165 : decode cX6_advanceActive 165 = .ok (.if_icmp .ge 7, 3) := by decide +kernel
theorem dX6_advanceActive_168 : decode cX6_advanceActive 168 = .ok (.iconst (-1), 1) := by decide +kernel
theorem dX6_advanceActive_169 : decode cX6_advanceActive 169 = .ok (.goto 5, 3) := by decide +kernel
theorem dX6_advanceActive_172 : decode cX6_advanceActive 172 = .ok (.iload 8, 2) := by decide +kernel
theorem dX6_advanceActive_174 : decode cX6_advanceActive 174 = .ok (.istore 10, 2) := by decide +kernel
theorem dX6_advanceActive_176 : decode cX6_advanceActive 176 = .ok (.iload 7, 2) := by decide +kernel
theorem dX6_advanceActive_178 : decode cX6_advanceActive 178 = .ok (.ifCond .ne 7, 3) := by decide +kernel
theorem dX6_advanceActive_181 : decode cX6_advanceActive 181 = .ok (.iload_n 2, 1) := by decide +kernel
theorem dX6_advanceActive_182 : decode cX6_advanceActive 182 = .ok (.goto 5, 3) := by decide +kernel
theorem dX6_advanceActive_185 : decode cX6_advanceActive 185 = .ok (.iload 10, 2) := by decide +kernel
theorem dX6_advanceActive_187 : decode cX6_advanceActive 187 = .ok (.istore 11, 2) := by decide +kernel
theorem dX6_advanceActive_189 : decode cX6_advanceActive 189 = .ok (.iload 7, 2) := by decide +kernel
theorem dX6_advanceActive_191 : decode cX6_advanceActive 191 = .ok (.ifCond .ne 8, 3) := by decide +kernel
theorem dX6_advanceActive_194 : decode cX6_advanceActive 194 = .ok (.iload 10, 2) := by decide +kernel
theorem dX6_advanceActive_196 : decode cX6_advanceActive 196 = .ok (.goto 4, 3) := by decide +kernel
theorem dX6_advanceActive_199 : decode cX6_advanceActive 199 = .ok (.iload_n 2, 1) := by decide +kernel
theorem dX6_advanceActive_200 : decode cX6_advanceActive 200 = .ok (.istore 12, 2) := by decide +kernel
theorem dX6_advanceActive_202 : decode cX6_advanceActive 202 = .ok (.aload_n 0, 1) := by decide +kernel
theorem dX6_advanceActive_203 : decode cX6_advanceActive 203 = .ok (.aload 6, 2) := by decide +kernel
theorem dX6_advanceActive_205 : decode cX6_advanceActive 205 = .ok (.iload 7, 2) := by decide +kernel
theorem dX6_advanceActive_207 : decode cX6_advanceActive 207 = .ok (.iload_n 2, 1) := by decide +kernel
theorem dX6_advanceActive_208 : decode cX6_advanceActive 208 = .ok (.iload 10, 2) := by decide +kernel
theorem dX6_advanceActive_210 : decode cX6_advanceActive 210 = .ok (.invokevirtual 141, 3) := by decide +kernel
theorem dX6_advanceActive_213 : decode cX6_advanceActive 213 = .ok (.ifCond .eq 40, 3) := by decide +kernel
theorem dX6_advanceActive_216 : decode cX6_advanceActive 216 = .ok (.aload_n 0, 1) := by decide +kernel
theorem dX6_advanceActive_217 : decode cX6_advanceActive 217 = .ok (.iload 5, 2) := by decide +kernel
theorem dX6_advanceActive_219 : decode cX6_advanceActive 219 = .ok (.iload 11, 2) := by decide +kernel
theorem dX6_advanceActive_221 : decode cX6_advanceActive 221 = .ok (.iload 12, 2) := by decide +kernel
theorem dX6_advanceActive_223 : decode cX6_advanceActive 223 = .ok (.invokevirtual 145, 3) := by decide +kernel
theorem dX6_advanceActive_226 : decode cX6_advanceActive 226 = .ok (.ifCond .eq 27, 3) := by decide +kernel
theorem dX6_advanceActive_229 : decode cX6_advanceActive 229 = .ok (.aload_n 0, 1) := by decide +kernel
theorem dX6_advanceActive_230 : decode cX6_advanceActive 230 = .ok (.aload 6, 2) := by decide +kernel
theorem dX6_advanceActive_232 : decode cX6_advanceActive 232 = .ok (.iload 11, 2) := by decide +kernel
theorem dX6_advanceActive_234 : decode cX6_advanceActive 234 = .ok (.iload 12, 2) := by decide +kernel
theorem dX6_advanceActive_236 : decode cX6_advanceActive 236 = .ok (.invokevirtual 149, 3) := by decide +kernel
theorem dX6_advanceActive_239 : decode cX6_advanceActive 239 = .ok (.ifCond .eq 14, 3) := by decide +kernel
theorem dX6_advanceActive_242 : decode cX6_advanceActive 242 = .ok (.aload_n 0, 1) := by decide +kernel
theorem dX6_advanceActive_243 : decode cX6_advanceActive 243 = .ok (.iload 5, 2) := by decide +kernel
theorem dX6_advanceActive_245 : decode cX6_advanceActive 245 = .ok (.iload 11, 2) := by decide +kernel
theorem dX6_advanceActive_247 : decode cX6_advanceActive 247 = .ok (.iload 12, 2) := by decide +kernel
theorem dX6_advanceActive_249 : decode cX6_advanceActive 249 = .ok (.invokevirtual 153, 3) := by decide +kernel
theorem dX6_advanceActive_252 : decode cX6_advanceActive 252 = .ok (.return_, 1) := by decide +kernel
theorem dX6_advanceActive_253 : decode cX6_advanceActive 253 = .ok (.goto (-223), 3) := by decide +kernel
theorem dX6_advanceActive_256 : decode cX6_advanceActive 256 = .ok (.aload_n 0, 1) := by decide +kernel
theorem dX6_advanceActive_257 : decode cX6_advanceActive 257 = .ok (.dup, 1) := by decide +kernel
theorem dX6_advanceActive_258 : decode cX6_advanceActive 258 = .ok (.getfield 40, 3) := by decide +kernel
theorem dX6_advanceActive_261 : decode cX6_advanceActive 261 = .ok (.iconst 1, 1) := by decide +kernel
theorem dX6_advanceActive_262 : decode cX6_advanceActive 262 = .ok (.isub, 1) := by decide +kernel
theorem dX6_advanceActive_263 : decode cX6_advanceActive 263 = .ok (.putfield 40, 3) := by decide +kernel
theorem dX6_advanceActive_266 : decode cX6_advanceActive 266 = .ok (.return_, 1) := by decide +kernel
theorem dX6_isPartner_0 : decode cX6_isPartner 0 = .ok (.aload_n 1, 1) := by decide +kernel
theorem dX6_isPartner_1 : decode cX6_isPartner 1 = .ok (.getfield 130, 3) := by decide +kernel
theorem dX6_isPartner_4 : decode cX6_isPartner 4 = .ok (.iconst 2, 1) := by decide +kernel
theorem dX6_isPartner_5 : decode cX6_isPartner 5 = .ok (.if_icmp .lt 49, 3) := by decide +kernel
theorem dX6_isPartner_8 : decode cX6_isPartner 8 = .ok (.iload 4, 2) := by decide +kernel
theorem dX6_isPartner_10 : decode cX6_isPartner 10 = .ok (.iload_n 3, 1) := by decide +kernel
theorem dX6_isPartner_11 : decode cX6_isPartner 11 = .ok (.if_icmp .eq 47, 3) := by decide +kernel
theorem dX6_isPartner_14 : decode cX6_isPartner 14 = .ok (.aload_n 0, 1) := by decide +kernel
theorem dX6_isPartner_15 : decode cX6_isPartner 15 = .ok (.getfield 31, 3) := by decide +kernel
theorem dX6_isPartner_18 : decode cX6_isPartner 18 = .ok (.getfield 126, 3) := by decide +kernel
theorem dX6_isPartner_21 : decode cX6_isPartner 21 = .ok (.iload 4, 2) := by decide +kernel
theorem dX6_isPartner_23 : decode cX6_isPartner 23 = .ok (.baload, 1) := by decide +kernel
theorem dX6_isPartner_24 : decode cX6_isPartner 24 = .ok (.ifCond .eq 34, 3) := by decide +kernel
theorem dX6_isPartner_27 : decode cX6_isPartner 27 = .ok (.aload_n 0, 1) := by decide +kernel
theorem dX6_isPartner_28 : decode cX6_isPartner 28 = .ok (.getfield 31, 3) := by decide +kernel
theorem dX6_isPartner_31 : decode cX6_isPartner 31 = .ok (.getfield 138, 3) := by decide +kernel
theorem dX6_isPartner_34 : decode cX6_isPartner 34 = .ok (.iload 4, 2) := by decide +kernel
theorem dX6_isPartner_36 : decode cX6_isPartner 36 = .ok (.iaload, 1) := by decide +kernel
theorem dX6_isPartner_37 : decode cX6_isPartner 37 = .ok (.aload_n 1, 1) := by decide +kernel
theorem dX6_isPartner_38 : decode cX6_isPartner 38 = .ok (.getfield 135, 3) := by decide +kernel
theorem dX6_isPartner_41 : decode cX6_isPartner 41 = .ok (.iload_n 2, 1) := by decide +kernel
theorem dX6_isPartner_42 : decode cX6_isPartner 42 = .ok (.ifCond .ne 7, 3) := by decide +kernel
theorem dX6_isPartner_45 : decode cX6_isPartner 45 = .ok (.iconst 1, 1) := by decide +kernel
theorem dX6_isPartner_46 : decode cX6_isPartner 46 = .ok (.goto 4, 3) := by decide +kernel
theorem dX6_isPartner_49 : decode cX6_isPartner 49 = .ok (.iconst 0, 1) := by decide +kernel
theorem dX6_isPartner_50 : decode cX6_isPartner 50 = .ok (.iaload, 1) := by decide +kernel
theorem dX6_isPartner_51 : decode cX6_isPartner 51 = .ok (.if_icmp .ne 7, 3) := by decide +kernel
theorem dX6_isPartner_54 : decode cX6_isPartner 54 = .ok (.iconst 1, 1) := by decide +kernel
theorem dX6_isPartner_55 : decode cX6_isPartner 55 = .ok (.goto 4, 3) := by decide +kernel
theorem dX6_isPartner_58 : decode cX6_isPartner 58 = .ok (.iconst 0, 1) := by decide +kernel
theorem dX6_isPartner_59 : decode cX6_isPartner 59 = .ok (.ireturn, 1) := by decide +kernel
theorem dX6_isMatch_0 : decode cX6_isMatch 0 = .ok (.aload_n 0, 1) := by decide +kernel
theorem dX6_isMatch_1 : decode cX6_isMatch 1 = .ok (.getfield 17, 3) := by decide +kernel
theorem dX6_isMatch_4 : decode cX6_isMatch 4 = .ok (.sipush 1000, 3) := by decide +kernel
theorem dX6_isMatch_7 : decode cX6_isMatch 7 = .ok (.invokestatic 56, 3) := by decide +kernel
theorem dX6_isMatch_10 : decode cX6_isMatch 10 = .ok (.iconst 0, 1) := by decide +kernel
theorem dX6_isMatch_11 : decode cX6_isMatch 11 = .ok (.istore 4, 2) := by decide +kernel
theorem dX6_isMatch_13 : decode cX6_isMatch 13 = .ok (.iload 4, 2) := by decide +kernel
theorem dX6_isMatch_15 : decode cX6_isMatch 15 = .ok (.iconst 2, 1) := by decide +kernel
theorem dX6_isMatch_16 : decode cX6_isMatch 16 = .ok (.aload_n 1, 1) := by decide +kernel
theorem dX6_isMatch_17 : decode cX6_isMatch 17 = .ok (.getfield 130, 3) := by decide +kernel
theorem dX6_isMatch_20 : decode cX6_isMatch 20 = .ok (.imul, 1) := by decide +kernel
theorem dX6_isMatch_21 : decode cX6_isMatch 21 = .ok (.if_icmp .ge 145, 3) := by decide +kernel
theorem dX6_isMatch_24 : decode cX6_isMatch 24 = .ok (.iload 4, 2) := by decide +kernel
theorem dX6_isMatch_26 : decode cX6_isMatch 26 = .ok (.iconst 2, 1) := by decide +kernel
theorem dX6_isMatch_27 : decode cX6_isMatch 27 = .ok (.if_icmp .ge 7, 3) := by decide +kernel
theorem dX6_isMatch_30 : decode cX6_isMatch 30 = .ok (.iload_n 2, 1) := by decide +kernel
theorem dX6_isMatch_31 : decode cX6_isMatch 31 = .ok (.goto 4, 3) := by decide +kernel
theorem dX6_isMatch_34 : decode cX6_isMatch 34 = .ok (.iload_n 3, 1) := by decide +kernel
theorem dX6_isMatch_35 : decode cX6_isMatch 35 = .ok (.istore 5, 2) := by decide +kernel
theorem dX6_isMatch_37 : decode cX6_isMatch 37 = .ok (.iload 4, 2) := by decide +kernel
theorem dX6_isMatch_39 : decode cX6_isMatch 39 = .ok (.iconst 2, 1) := by decide +kernel
theorem dX6_isMatch_40 : decode cX6_isMatch 40 = .ok (.irem, 1) := by decide +kernel
theorem dX6_isMatch_41 : decode cX6_isMatch 41 = .ok (.ifCond .ne 16, 3) := by decide +kernel
theorem dX6_isMatch_44 : decode cX6_isMatch 44 = .ok (.aload_n 0, 1) := by decide +kernel
theorem dX6_isMatch_45 : decode cX6_isMatch 45 = .ok (.getfield 31, 3) := by decide +kernel
theorem dX6_isMatch_48 : decode cX6_isMatch 48 = .ok (.getfield 157, 3) := by decide +kernel
theorem dX6_isMatch_51 : decode cX6_isMatch 51 = .ok (.iload 5, 2) := by decide +kernel
theorem dX6_isMatch_53 : decode cX6_isMatch 53 = .ok (.iaload, 1) := by decide +kernel
theorem dX6_isMatch_54 : decode cX6_isMatch 54 = .ok (.goto 13, 3) := by decide +kernel
theorem dX6_isMatch_57 : decode cX6_isMatch 57 = .ok (.aload_n 0, 1) := by decide +kernel
theorem dX6_isMatch_58 : decode cX6_isMatch 58 = .ok (.getfield 31, 3) := by decide +kernel
theorem dX6_isMatch_61 : decode cX6_isMatch 61 = .ok (.getfield 160, 3) := by decide +kernel
theorem dX6_isMatch_64 : decode cX6_isMatch 64 = .ok (.iload 5, 2) := by decide +kernel
theorem dX6_isMatch_66 : decode cX6_isMatch 66 = .ok (.iaload, 1) := by decide +kernel
theorem dX6_isMatch_67 : decode cX6_isMatch 67 = .ok (.istore 6, 2) := by decide +kernel
theorem dX6_isMatch_69 : decode cX6_isMatch 69 = .ok (.aload_n 1, 1) := by decide +kernel
theorem dX6_isMatch_70 : decode cX6_isMatch 70 = .ok (.getfield 163, 3) := by decide +kernel
theorem dX6_isMatch_73 : decode cX6_isMatch 73 = .ok (.iload 4, 2) := by decide +kernel
theorem dX6_isMatch_75 : decode cX6_isMatch 75 = .ok (.iaload, 1) := by decide +kernel
theorem dX6_isMatch_76 : decode cX6_isMatch 76 = .ok (.istore 7, 2) := by decide +kernel
theorem dX6_isMatch_78 : decode cX6_isMatch 78 = .ok (.iload 7, 2) := by decide +kernel
theorem dX6_isMatch_80 : decode cX6_isMatch 80 = .ok (.sipush 300, 3) := by decide +kernel
theorem dX6_isMatch_83 : decode cX6_isMatch 83 = .ok (.if_icmp .ne 6, 3) := by decide +kernel
theorem dX6_isMatch_86 : decode cX6_isMatch 86 = .ok (.goto 74, 3) := by decide +kernel
theorem dX6_isMatch_89 : decode cX6_isMatch 89 = .ok (.iload 7, 2) := by decide +kernel
theorem dX6_isMatch_91 : decode cX6_isMatch 91 = .ok (.invokestatic 166, 3) := by decide +kernel
theorem dX6_isMatch_94 : decode cX6_isMatch 94 = .ok (.ifCond .eq 36, 3) := by decide +kernel
theorem dX6_isMatch_97 : decode cX6_isMatch 97 = .ok (.aload_n 0, 1) := by decide +kernel
theorem dX6_isMatch_98 : decode cX6_isMatch 98 = .ok (.getfield 17, 3) := by decide +kernel
theorem dX6_isMatch_101 : decode cX6_isMatch 101 = .ok (.iload 7, 2) := by decide +kernel
theorem dX6_isMatch_103 : decode cX6_isMatch 103 = .ok (.sipush 200, 3) := by decide +kernel
theorem dX6_isMatch_106 : decode cX6_isMatch 106 = .ok (.isub, 1) := by decide +kernel
theorem dX6_isMatch_107 : decode cX6_isMatch 107 = .ok (.iaload, 1) := by decide +kernel
theorem dX6_isMatch_108 : decode cX6_isMatch 108 = .ok (.sipush 1000, 3) := by decide +kernel
theorem dX6_isMatch_111 : decode cX6_isMatch 111 = .ok (.if_icmp .ne 19, 3) := by decide +kernel
theorem dX6_isMatch_114 : decode cX6_isMatch 114 = .ok (.aload_n 0, 1) := by decide +kernel
theorem dX6_isMatch_115 : decode cX6_isMatch 115 = .ok (.getfield 17, 3) := by decide +kernel
theorem dX6_isMatch_118 : decode cX6_isMatch 118 = .ok (.iload 7, 2) := by decide +kernel
theorem dX6_isMatch_120 : decode cX6_isMatch 120 = .ok (.sipush 200, 3) := by decide +kernel
theorem dX6_isMatch_123 : decode cX6_isMatch 123 = .ok (.isub, 1) := by decide +kernel
theorem dX6_isMatch_124 : decode cX6_isMatch 124 = .ok (.iload 6, 2) := by decide +kernel
theorem dX6_isMatch_126 : decode cX6_isMatch 126 = .ok (.iastore, 1) := by decide +kernel
theorem dX6_isMatch_127 : decode cX6_isMatch 127 = .ok (.goto 33, 3) := by decide +kernel
theorem dX6_isMatch_130 : decode cX6_isMatch 130 = .ok (.aload_n 0, 1) := by decide +kernel
theorem dX6_isMatch_131 : decode cX6_isMatch 131 = .ok (.getfield 31, 3) := by decide +kernel
theorem dX6_isMatch_134 : decode cX6_isMatch 134 = .ok (.iload 7, 2) := by decide +kernel
theorem dX6_isMatch_136 : decode cX6_isMatch 136 = .ok (.aload_n 0, 1) := by decide +kernel
theorem dX6_isMatch_137 : decode cX6_isMatch 137 = .ok (.getfield 17, 3) := by decide +kernel
theorem dX6_isMatch_140 : decode cX6_isMatch 140 = .ok (.invokestatic 170, 3) := by decide +kernel
theorem dX6_isMatch_143 : decode cX6_isMatch 143 = .ok (.invokevirtual 174, 3) := by decide +kernel
theorem dX6_isMatch_146 : decode cX6_isMatch 146 = .ok (.aload_n 0, 1) := by decide +kernel
theorem dX6_isMatch_147 : decode cX6_isMatch 147 = .ok (.getfield 31, 3) := by decide +kernel
theorem dX6_isMatch_150 : decode cX6_isMatch 150 = .ok (.iload 6, 2) := by decide +kernel
theorem dX6_isMatch_152 : decode cX6_isMatch 152 = .ok (.invokevirtual 174, 3) := by decide +kernel
theorem dX6_isMatch_155 : decode cX6_isMatch 155 = .ok (.if_icmp .eq 5, 3) := by decide +kernel
theorem dX6_isMatch_158 : decode cX6_isMatch 158 = .ok (.iconst 0, 1) := by decide +kernel
theorem dX6_isMatch_159 : decode cX6_isMatch 159 = .ok (.ireturn, 1) := by decide +kernel
theorem dX6_isMatch_160 : decode cX6_isMatch 160 = .ok (.iinc 4 1, 3) := by decide +kernel
theorem dX6_isMatch_163 : decode cX6_isMatch 163 = .ok (.goto (-150), 3) := by decide +kernel
theorem dX6_isMatch_166 : decode cX6_isMatch 166 = .ok (.aload_n 1, 1) := by decide +kernel
theorem dX6_isMatch_167 : decode cX6_isMatch 167 = .ok (.getfield 178, 3) := by decide +kernel
theorem dX6_isMatch_170 : decode cX6_isMatch 170 = .ok (.ifCond .eq 39, 3) := by decide +kernel
theorem dX6_isMatch_173 : decode cX6_isMatch 173 = .ok (.aload_n 0, 1) := by decide +kernel
theorem dX6_isMatch_174 : decode cX6_isMatch 174 = .ok (.getfield 31, 3) := by decide +kernel
theorem dX6_isMatch_177 : decode cX6_isMatch 177 = .ok (.aload_n 1, 1) := by decide +kernel
theorem dX6_isMatch_178 : decode cX6_isMatch 178 = .ok (.getfield 181, 3) := by decide +kernel
theorem dX6_isMatch_181 : decode cX6_isMatch 181 = .ok (.aload_n 1, 1) := by decide +kernel
theorem dX6_isMatch_182 : decode cX6_isMatch 182 = .ok (.getfield 184, 3) := by decide +kernel
theorem dX6_isMatch_185 : decode cX6_isMatch 185 = .ok (.aload_n 0, 1) := by decide +kernel
theorem dX6_isMatch_186 : decode cX6_isMatch 186 = .ok (.getfield 17, 3) := by decide +kernel
theorem dX6_isMatch_189 : decode cX6_isMatch 189 = .ok (.invokestatic 170, 3) := by decide +kernel
theorem dX6_isMatch_192 : decode cX6_isMatch 192 = .ok (.aload_n 1, 1) := by decide +kernel
theorem dX6_isMatch_193 : decode cX6_isMatch 193 = .ok (.getfield 187, 3) := by decide +kernel
theorem dX6_isMatch_196 : decode cX6_isMatch 196 = .ok (.aload_n 0, 1) := by decide +kernel
theorem dX6_isMatch_197 : decode cX6_isMatch 197 = .ok (.getfield 17, 3) := by decide +kernel
theorem dX6_isMatch_200 : decode cX6_isMatch 200 = .ok (.invokestatic 170, 3) := by decide +kernel
theorem dX6_isMatch_203 : decode cX6_isMatch 203 = .ok (.invokevirtual 190, 3) := by decide +kernel
theorem dX6_isMatch_206 : decode cX6_isMatch 206 = .ok (.ifCond .eq 7, 3) := by decide +kernel
theorem dX6_isMatch_209 : decode cX6_isMatch 209 = .ok (.iconst 1, 1) := by decide +kernel
theorem dX6_isMatch_210 : decode cX6_isMatch 210 = .ok (.goto 4, 3) := by decide +kernel
theorem dX6_isMatch_213 : decode cX6_isMatch 213 = .ok (.iconst 0, 1) := by decide +kernel
theorem dX6_isMatch_214 : decode cX6_isMatch 214 = .ok (.ireturn, 1) := by decide +kernel
theorem dX6_resolve_0 : decode cX6_resolve 0 = .ok (.iload_n 0, 1) := by decide +kernel
theorem dX6_resolve_1 : decode cX6_resolve 1 = .ok (.invokestatic 166, 3) := by decide +kernel
theorem dX6_resolve_4 : decode cX6_resolve 4 = .ok (.ifCond .eq 13, 3) := by decide +kernel
theorem dX6_resolve_7 : decode cX6_resolve 7 = .ok (.aload_n 1, 1) := by decide +kernel
theorem dX6_resolve_8 : decode cX6_resolve 8 = .ok (.iload_n 0, 1) := by decide +kernel
theorem dX6_resolve_9 : decode cX6_resolve 9 = .ok (.sipush 200, 3) := by decide +kernel
theorem dX6_resolve_12 : decode cX6_resolve 12 = .ok (.isub, 1) := by decide +kernel
theorem dX6_resolve_13 : decode cX6_resolve 13 = .ok (.iaload, 1) := by decide +kernel
theorem dX6_resolve_14 : decode cX6_resolve 14 = .ok (.goto 4, 3) := by decide +kernel
theorem dX6_resolve_17 : decode cX6_resolve 17 = .ok (.iload_n 0, 1) := by decide +kernel
theorem dX6_resolve_18 : decode cX6_resolve 18 = .ok (.ireturn, 1) := by decide +kernel
theorem dX6_historyRow_0 : decode cX6_historyRow 0 = .ok (.iconst 2, 1) := by decide +kernel
theorem dX6_historyRow_1 : decode cX6_historyRow 1 = .ok (.iload_n 0, 1) := by decide +kernel
theorem dX6_historyRow_2 : decode cX6_historyRow 2 = .ok (.bipush 100, 2) := by decide +kernel
theorem dX6_historyRow_4 : decode cX6_historyRow 4 = .ok (.imul, 1) := by decide +kernel
theorem dX6_historyRow_5 : decode cX6_historyRow 5 = .ok (.iload_n 1, 1) := by decide +kernel
theorem dX6_historyRow_6 : decode cX6_historyRow 6 = .ok (.iadd, 1) := by decide +kernel
theorem dX6_historyRow_7 : decode cX6_historyRow 7 = .ok (.imul, 1) := by decide +kernel
theorem dX6_historyRow_8 : decode cX6_historyRow 8 = .ok (.iload_n 2, 1) := by decide +kernel
theorem dX6_historyRow_9 : decode cX6_historyRow 9 = .ok (.bipush 64, 2) := by decide +kernel
theorem dX6_historyRow_11 : decode cX6_historyRow 11 = .ok (.if_icmp .ge 7, 3) := by decide +kernel
theorem dX6_historyRow_14 : decode cX6_historyRow 14 = .ok (.iconst 0, 1) := by decide +kernel
theorem dX6_historyRow_15 : decode cX6_historyRow 15 = .ok (.goto 4, 3) := by decide +kernel
theorem dX6_historyRow_18 : decode cX6_historyRow 18 = .ok (.iconst 1, 1) := by decide +kernel
theorem dX6_historyRow_19 : decode cX6_historyRow 19 = .ok (.iadd, 1) := by decide +kernel
theorem dX6_historyRow_20 : decode cX6_historyRow 20 = .ok (.ireturn, 1) := by decide +kernel
theorem dX6_historyBit_0 : decode cX6_historyBit 0 = .ok (.iload_n 0, 1) := by decide +kernel
theorem dX6_historyBit_1 : decode cX6_historyBit 1 = .ok (.ifCond .ge 7, 3) := by decide +kernel
theorem dX6_historyBit_4 : decode cX6_historyBit 4 = .ok (.lconst 1, 1) := by decide +kernel
theorem dX6_historyBit_5 : decode cX6_historyBit 5 = .ok (.goto 9, 3) := by decide +kernel
theorem dX6_historyBit_8 : decode cX6_historyBit 8 = .ok (.lconst 1, 1) := by decide +kernel
theorem dX6_historyBit_9 : decode cX6_historyBit 9 = .ok (.iload_n 0, 1) := by decide +kernel
theorem dX6_historyBit_10 : decode cX6_historyBit 10 = .ok (.bipush 63, 2) := by decide +kernel
theorem dX6_historyBit_12 : decode cX6_historyBit 12 = .ok (.iand, 1) := by decide +kernel
theorem dX6_historyBit_13 : decode cX6_historyBit 13 = .ok (.lshl, 1) := by decide +kernel
theorem dX6_historyBit_14 : decode cX6_historyBit 14 = .ok (.lreturn, 1) := by decide +kernel
theorem dX6_isNew_0 : decode cX6_isNew 0 = .ok (.aload_n 0, 1) := by decide +kernel
theorem dX6_isNew_1 : decode cX6_isNew 1 = .ok (.getfield 21, 3) := by decide +kernel
theorem dX6_isNew_4 : decode cX6_isNew 4 = .ok (.iload_n 1, 1) := by decide +kernel
theorem dX6_isNew_5 : decode cX6_isNew 5 = .ok (.iload_n 2, 1) := by decide +kernel
theorem dX6_isNew_6 : decode cX6_isNew 6 = .ok (.iload_n 3, 1) := by decide +kernel
theorem dX6_isNew_7 : decode cX6_isNew 7 = .ok (.invokestatic 193, 3) := by decide +kernel
theorem dX6_isNew_10 : decode cX6_isNew 10 = .ok (.laload, 1) := by decide +kernel
theorem dX6_isNew_11 : decode cX6_isNew 11 = .ok (.iload_n 3, 1) := by decide +kernel
theorem dX6_isNew_12 : decode cX6_isNew 12 = .ok (.invokestatic 197, 3) := by decide +kernel
theorem dX6_isNew_15 : decode cX6_isNew 15 = .ok (.land, 1) := by decide +kernel
theorem dX6_isNew_16 : decode cX6_isNew 16 = .ok (.lconst 0, 1) := by decide +kernel
theorem dX6_isNew_17 : decode cX6_isNew 17 = .ok (.lcmp, 1) := by decide +kernel
theorem dX6_isNew_18 : decode cX6_isNew 18 = .ok (.ifCond .ne 7, 3) := by decide +kernel
theorem dX6_isNew_21 : decode cX6_isNew 21 = .ok (.iconst 1, 1) := by decide +kernel
theorem dX6_isNew_22 : decode cX6_isNew 22 = .ok (.goto 4, 3) := by decide +kernel
theorem dX6_isNew_25 : decode cX6_isNew 25 = .ok (.iconst 0, 1) := by decide +kernel
theorem dX6_isNew_26 : decode cX6_isNew 26 = .ok (.ireturn, 1) := by decide +kernel
theorem dX6_remember_0 : decode cX6_remember 0 = .ok (.aload_n 0, 1) := by decide +kernel
theorem dX6_remember_1 : decode cX6_remember 1 = .ok (.getfield 21, 3) := by decide +kernel
theorem dX6_remember_4 : decode cX6_remember 4 = .ok (.iload_n 1, 1) := by decide +kernel
theorem dX6_remember_5 : decode cX6_remember 5 = .ok (.iload_n 2, 1) := by decide +kernel
theorem dX6_remember_6 : decode cX6_remember 6 = .ok (.iload_n 3, 1) := by decide +kernel
theorem dX6_remember_7 : decode cX6_remember 7 = .ok (.invokestatic 193, 3) := by decide +kernel
theorem dX6_remember_10 : decode cX6_remember 10 = .ok (.dup2, 1) := by decide +kernel
theorem dX6_remember_11 : decode cX6_remember 11 = .ok (.laload, 1) := by decide +kernel
theorem dX6_remember_12 : decode cX6_remember 12 = .ok (.iload_n 3, 1) := by decide +kernel
theorem dX6_remember_13 : decode cX6_remember 13 = .ok (.invokestatic 197, 3) := by decide +kernel
theorem dX6_remember_16 : decode cX6_remember 16 = .ok (.lor, 1) := by decide +kernel
theorem dX6_remember_17 : decode cX6_remember 17 = .ok (.lastore, 1) := by decide +kernel
theorem dX6_remember_18 : decode cX6_remember 18 = .ok (.aload_n 0, 1) := by decide +kernel
theorem dX6_remember_19 : decode cX6_remember 19 = .ok (.getfield 47, 3) := by decide +kernel
theorem dX6_remember_22 : decode cX6_remember 22 = .ok (.bipush 60, 2) := by decide +kernel
theorem dX6_remember_24 : decode cX6_remember 24 = .ok (.if_icmp .ge 37, 3) := by decide +kernel
theorem dX6_remember_27 : decode cX6_remember 27 = .ok (.aload_n 0, 1) := by decide +kernel
theorem dX6_remember_28 : decode cX6_remember 28 = .ok (.getfield 25, 3) := by decide +kernel
theorem dX6_remember_31 : decode cX6_remember 31 = .ok (.aload_n 0, 1) := by decide +kernel
theorem dX6_remember_32 : decode cX6_remember 32 = .ok (.getfield 47, 3) := by decide +kernel
theorem dX6_remember_35 : decode cX6_remember 35 = .ok (.iload_n 1, 1) := by decide +kernel
theorem dX6_remember_36 : decode cX6_remember 36 = .ok (.bipush 100, 2) := by decide +kernel
theorem dX6_remember_38 : decode cX6_remember 38 = .ok (.imul, 1) := by decide +kernel
theorem dX6_remember_39 : decode cX6_remember 39 = .ok (.iload_n 2, 1) := by decide +kernel
theorem dX6_remember_40 : decode cX6_remember 40 = .ok (.iadd, 1) := by decide +kernel
theorem dX6_remember_41 : decode cX6_remember 41 = .ok (.bipush 100, 2) := by decide +kernel
theorem dX6_remember_43 : decode cX6_remember 43 = .ok (.imul, 1) := by decide +kernel
theorem dX6_remember_44 : decode cX6_remember 44 = .ok (.iload_n 3, 1) := by decide +kernel
theorem dX6_remember_45 : decode cX6_remember 45 = .ok (.iconst 0, 1) := by decide +kernel
theorem dX6_remember_46 : decode cX6_remember 46 = .ok (.invokestatic 200, 3) := by decide +kernel
theorem dX6_remember_49 : decode cX6_remember 49 = .ok (.iadd, 1) := by decide +kernel
theorem dX6_remember_50 : decode cX6_remember 50 = .ok (.iastore, 1) := by decide +kernel
theorem dX6_remember_51 : decode cX6_remember 51 = .ok (.aload_n 0, 1) := by decide +kernel
theorem dX6_remember_52 : decode cX6_remember 52 = .ok (.dup, 1) := by decide +kernel
theorem dX6_remember_53 : decode cX6_remember 53 = .ok (.getfield 47, 3) := by decide +kernel
theorem dX6_remember_56 : decode cX6_remember 56 = .ok (.iconst 1, 1) := by decide +kernel
theorem dX6_remember_57 : decode cX6_remember 57 = .ok (.iadd, 1) := by decide +kernel
theorem dX6_remember_58 : decode cX6_remember 58 = .ok (.putfield 47, 3) := by decide +kernel
theorem dX6_remember_61 : decode cX6_remember 61 = .ok (.return_, 1) := by decide +kernel
theorem dX6_forget_0 : decode cX6_forget 0 = .ok (.aload_n 0, 1) := by decide +kernel
theorem dX6_forget_1 : decode cX6_forget 1 = .ok (.getfield 47, 3) := by decide +kernel
theorem dX6_forget_4 : decode cX6_forget 4 = .ok (.iload_n 1, 1) := by decide +kernel
theorem dX6_forget_5 : decode cX6_forget 5 = .ok (.if_icmp .le 78, 3) := by decide +kernel
theorem dX6_forget_8 : decode cX6_forget 8 = .ok (.aload_n 0, 1) := by decide +kernel
theorem dX6_forget_9 : decode cX6_forget 9 = .ok (.getfield 47, 3) := by decide +kernel
theorem dX6_forget_12 : decode cX6_forget 12 = .ok (.ifCond .le 71, 3) := by decide +kernel
theorem dX6_forget_15 : decode cX6_forget 15 = .ok (.aload_n 0, 1) := by decide +kernel
theorem dX6_forget_16 : decode cX6_forget 16 = .ok (.getfield 25, 3) := by decide +kernel
theorem dX6_forget_19 : decode cX6_forget 19 = .ok (.aload_n 0, 1) := by decide +kernel
theorem dX6_forget_20 : decode cX6_forget 20 = .ok (.getfield 47, 3) := by decide +kernel
theorem dX6_forget_23 : decode cX6_forget 23 = .ok (.iconst 1, 1) := by decide +kernel
theorem dX6_forget_24 : decode cX6_forget 24 = .ok (.isub, 1) := by decide +kernel
theorem dX6_forget_25 : decode cX6_forget 25 = .ok (.iaload, 1) := by decide +kernel
theorem dX6_forget_26 : decode cX6_forget 26 = .ok (.istore_n 2, 1) := by decide +kernel
theorem dX6_forget_27 : decode cX6_forget 27 = .ok (.iload_n 2, 1) := by decide +kernel
theorem dX6_forget_28 : decode cX6_forget 28 = .ok (.bipush 100, 2) := by decide +kernel
theorem dX6_forget_30 : decode cX6_forget 30 = .ok (.irem, 1) := by decide +kernel
theorem dX6_forget_31 : decode cX6_forget 31 = .ok (.istore_n 3, 1) := by decide +kernel
theorem dX6_forget_32 : decode cX6_forget 32 = .ok (.iload_n 2, 1) := by decide +kernel
theorem dX6_forget_33 : decode cX6_forget 33 = .ok (.bipush 100, 2) := by decide +kernel
theorem dX6_forget_35 : decode cX6_forget 35 = .ok (.idiv, 1) := by decide +kernel
theorem dX6_forget_36 : decode cX6_forget 36 = .ok (.bipush 100, 2) := by decide +kernel
theorem dX6_forget_38 : decode cX6_forget 38 = .ok (.idiv, 1) := by decide +kernel
theorem dX6_forget_39 : decode cX6_forget 39 = .ok (.iload_n 2, 1) := by decide +kernel
theorem dX6_forget_40 : decode cX6_forget 40 = .ok (.bipush 100, 2) := by decide +kernel
theorem dX6_forget_42 : decode cX6_forget 42 = .ok (.idiv, 1) := by decide +kernel
theorem dX6_forget_43 : decode cX6_forget 43 = .ok (.bipush 100, 2) := by decide +kernel
theorem dX6_forget_45 : decode cX6_forget 45 = .ok (.irem, 1) := by decide +kernel
theorem dX6_forget_46 : decode cX6_forget 46 = .ok (.iload_n 3, 1) := by decide +kernel
theorem dX6_forget_47 : decode cX6_forget 47 = .ok (.invokestatic 193, 3) := by decide +kernel
theorem dX6_forget_50 : decode cX6_forget 50 = .ok (.istore 4, 2) := by decide +kernel
theorem dX6_forget_52 : decode cX6_forget 52 = .ok (.aload_n 0, 1) := by decide +kernel
theorem dX6_forget_53 : decode cX6_forget 53 = .ok (.getfield 21, 3) := by decide +kernel
theorem dX6_forget_56 : decode cX6_forget 56 = .ok (.iload 4, 2) := by decide +kernel
theorem dX6_forget_58 : decode cX6_forget 58 = .ok (.dup2, 1) := by decide +kernel
theorem dX6_forget_59 : decode cX6_forget 59 = .ok (.laload, 1) := by decide +kernel
theorem dX6_forget_60 : decode cX6_forget 60 = .ok (.iload_n 3, 1) := by decide +kernel
theorem dX6_forget_61 : decode cX6_forget 61 = .ok (.invokestatic 197, 3) := by decide +kernel
theorem dX6_forget_64 : decode cX6_forget 64 = .ok (.ldc2_w 205, 3) := by decide +kernel
theorem dX6_forget_67 : decode cX6_forget 67 = .ok (.lxor, 1) := by decide +kernel
theorem dX6_forget_68 : decode cX6_forget 68 = .ok (.land, 1) := by decide +kernel
theorem dX6_forget_69 : decode cX6_forget 69 = .ok (.lastore, 1) := by decide +kernel
theorem dX6_forget_70 : decode cX6_forget 70 = .ok (.aload_n 0, 1) := by decide +kernel
theorem dX6_forget_71 : decode cX6_forget 71 = .ok (.dup, 1) := by decide +kernel
theorem dX6_forget_72 : decode cX6_forget 72 = .ok (.getfield 47, 3) := by decide +kernel
theorem dX6_forget_75 : decode cX6_forget 75 = .ok (.iconst 1, 1) := by decide +kernel
theorem dX6_forget_76 : decode cX6_forget 76 = .ok (.isub, 1) := by decide +kernel
theorem dX6_forget_77 : decode cX6_forget 77 = .ok (.putfield 47, 3) := by decide +kernel
theorem dX6_forget_80 : decode cX6_forget 80 = .ok (.goto (-80), 3) := by decide +kernel
theorem dX6_forget_83 : decode cX6_forget 83 = .ok (.return_, 1) := by decide +kernel
theorem dX6_fire_0 : decode cX6_fire 0 = .ok (.aload_n 0, 1) := by decide +kernel
theorem dX6_fire_1 : decode cX6_fire 1 = .ok (.getfield 31, 3) := by decide +kernel
theorem dX6_fire_4 : decode cX6_fire 4 = .ok (.invokevirtual 207, 3) := by decide +kernel
theorem dX6_fire_7 : decode cX6_fire 7 = .ok (.ifCond .ne 4, 3) := by decide +kernel
theorem dX6_fire_10 : decode cX6_fire 10 = .ok (.return_, 1) := by decide +kernel
theorem dX6_fire_11 : decode cX6_fire 11 = .ok (.aload_n 0, 1) := by decide +kernel
theorem dX6_fire_12 : decode cX6_fire 12 = .ok (.getfield 35, 3) := by decide +kernel
theorem dX6_fire_15 : decode cX6_fire 15 = .ok (.iload_n 1, 1) := by decide +kernel
theorem dX6_fire_16 : decode cX6_fire 16 = .ok (.aaload, 1) := by decide +kernel
theorem dX6_fire_17 : decode cX6_fire 17 = .ok (.astore 4, 2) := by decide +kernel
theorem dX6_fire_19 : decode cX6_fire 19 = .ok (.aload_n 0, 1) := by decide +kernel
theorem dX6_fire_20 : decode cX6_fire 20 = .ok (.getfield 28, 3) := by decide +kernel
theorem dX6_fire_23 : decode cX6_fire 23 = .ok (.iload_n 1, 1) := by decide +kernel
theorem dX6_fire_24 : decode cX6_fire 24 = .ok (.dup2, 1) := by decide +kernel
theorem dX6_fire_25 : decode cX6_fire 25 = .ok (.iaload, 1) := by decide +kernel
theorem dX6_fire_26 : decode cX6_fire 26 = .ok (.iconst 1, 1) := by decide +kernel
theorem dX6_fire_27 : decode cX6_fire 27 = .ok (.iadd, 1) := by decide +kernel
theorem dX6_fire_28 : decode cX6_fire 28 = .ok (.iastore, 1) := by decide +kernel
theorem dX6_fire_29 : decode cX6_fire 29 = .ok (.aload 4, 2) := by decide +kernel
theorem dX6_fire_31 : decode cX6_fire 31 = .ok (.invokevirtual 211, 3) := by decide +kernel
theorem dX6_fire_34 : decode cX6_fire 34 = .ok (.ifCond .eq 10, 3) := by decide +kernel
theorem dX6_fire_37 : decode cX6_fire 37 = .ok (.aload_n 0, 1) := by decide +kernel
theorem dX6_fire_38 : decode cX6_fire 38 = .ok (.iload_n 1, 1) := by decide +kernel
theorem dX6_fire_39 : decode cX6_fire 39 = .ok (.iload_n 2, 1) := by decide +kernel
theorem dX6_fire_40 : decode cX6_fire 40 = .ok (.iload_n 3, 1) := by decide +kernel
theorem dX6_fire_41 : decode cX6_fire 41 = .ok (.invokevirtual 214, 3) := by decide +kernel
theorem dX6_fire_44 : decode cX6_fire 44 = .ok (.aload_n 0, 1) := by decide +kernel
theorem dX6_fire_45 : decode cX6_fire 45 = .ok (.iconst 2, 1) := by decide +kernel
theorem dX6_fire_46 : decode cX6_fire 46 = .ok (.invokevirtual 94, 3) := by decide +kernel
theorem dX6_fire_49 : decode cX6_fire 49 = .ok (.astore 5, 2) := by decide +kernel
theorem dX6_fire_51 : decode cX6_fire 51 = .ok (.aload 5, 2) := by decide +kernel
theorem dX6_fire_53 : decode cX6_fire 53 = .ok (.iload_n 1, 1) := by decide +kernel
theorem dX6_fire_54 : decode cX6_fire 54 = .ok (.putfield 217, 3) := by decide +kernel
theorem dX6_fire_57 : decode cX6_fire 57 = .ok (.aload 5, 2) := by decide +kernel
theorem dX6_fire_59 : decode cX6_fire 59 = .ok (.iconst 1, 1) := by decide +kernel
theorem dX6_fire_60 : decode cX6_fire 60 = .ok (.putfield 220, 3) := by decide +kernel
theorem dX6_fire_63 : decode cX6_fire 63 = .ok (.aload_n 0, 1) := by decide +kernel
theorem dX6_fire_64 : decode cX6_fire 64 = .ok (.getfield 17, 3) := by decide +kernel
theorem dX6_fire_67 : decode cX6_fire 67 = .ok (.iconst 0, 1) := by decide +kernel
theorem dX6_fire_68 : decode cX6_fire 68 = .ok (.aload 5, 2) := by decide +kernel
theorem dX6_fire_70 : decode cX6_fire 70 = .ok (.getfield 223, 3) := by decide +kernel
theorem dX6_fire_73 : decode cX6_fire 73 = .ok (.iconst 0, 1) := by decide +kernel
theorem dX6_fire_74 : decode cX6_fire 74 = .ok (.iconst 4, 1) := by decide +kernel
theorem dX6_fire_75 : decode cX6_fire 75 = .ok (.invokestatic 59, 3) := by decide +kernel
theorem dX6_fire_78 : decode cX6_fire 78 = .ok (.iconst 0, 1) := by decide +kernel
theorem dX6_fire_79 : decode cX6_fire 79 = .ok (.istore 6, 2) := by decide +kernel
theorem dX6_fire_81 : decode cX6_fire 81 = .ok (.iload 6, 2) := by decide +kernel
theorem dX6_fire_83 : decode cX6_fire 83 = .ok (.aload 4, 2) := by decide +kernel
theorem dX6_fire_85 : decode cX6_fire 85 = .ok (.getfield 130, 3) := by decide +kernel
theorem dX6_fire_88 : decode cX6_fire 88 = .ok (.if_icmp .ge 122, 3) := by decide +kernel
theorem dX6_fire_91 : decode cX6_fire 91 = .ok (.iload 6, 2) := by decide +kernel
theorem dX6_fire_93 : decode cX6_fire 93 = .ok (.ifCond .ne 7, 3) := by decide +kernel
theorem dX6_fire_96 : decode cX6_fire 96 = .ok (.iload_n 2, 1) := by decide +kernel
theorem dX6_fire_97 : decode cX6_fire 97 = .ok (.goto 4, 3) := by decide +kernel
theorem dX6_fire_100 : decode cX6_fire 100 = .ok (.iload_n 3, 1) := by decide +kernel
theorem dX6_fire_101 : decode cX6_fire 101 = .ok (.istore 7, 2) := by decide +kernel
theorem dX6_fire_103 : decode cX6_fire 103 = .ok (.aload_n 0, 1) := by decide +kernel
theorem dX6_fire_104 : decode cX6_fire 104 = .ok (.getfield 31, 3) := by decide +kernel
theorem dX6_fire_107 : decode cX6_fire 107 = .ok (.getfield 126, 3) := by decide +kernel
theorem dX6_fire_110 : decode cX6_fire 110 = .ok (.iload 7, 2) := by decide +kernel
theorem dX6_fire_112 : decode cX6_fire 112 = .ok (.aload 4, 2) := by decide +kernel
theorem dX6_fire_114 : decode cX6_fire 114 = .ok (.getfield 224, 3) := by decide +kernel
theorem dX6_fire_117 : decode cX6_fire 117 = .ok (.iload 6, 2) := by decide +kernel
theorem dX6_fire_119 : decode cX6_fire 119 = .ok (.baload, 1) := by decide +kernel
theorem dX6_fire_120 : decode cX6_fire 120 = .ok (.bastore, 1) := by decide +kernel
theorem dX6_fire_121 : decode cX6_fire 121 = .ok (.aload 5, 2) := by decide +kernel
theorem dX6_fire_123 : decode cX6_fire 123 = .ok (.aload 5, 2) := by decide +kernel
theorem dX6_fire_125 : decode cX6_fire 125 = .ok (.getfield 220, 3) := by decide +kernel
theorem dX6_fire_128 : decode cX6_fire 128 = .ok (.ifCond .eq 20, 3) := by decide +kernel
theorem dX6_fire_131 : decode cX6_fire 131 = .ok (.aload_n 0, 1) := by decide +kernel
theorem dX6_fire_132 : decode cX6_fire 132 = .ok (.getfield 31, 3) := by decide +kernel
theorem dX6_fire_135 : decode cX6_fire 135 = .ok (.getfield 227, 3) := by decide +kernel
theorem dX6_fire_138 : decode cX6_fire 138 = .ok (.iload 7, 2) := by decide +kernel
theorem dX6_fire_140 : decode cX6_fire 140 = .ok (.baload, 1) := by decide +kernel
theorem dX6_fire_141 : decode cX6_fire 141 = .ok (.ifCond .eq 7, 3) := by decide +kernel
theorem dX6_fire_144 : decode cX6_fire 144 = .ok (.iconst 1, 1) := by decide +kernel
theorem dX6_fire_145 : decode cX6_fire 145 = .ok (.goto 4, 3) := by decide +kernel
theorem dX6_fire_148 : decode cX6_fire 148 = .ok (.iconst 0, 1) := by decide +kernel
theorem dX6_fire_149 : decode cX6_fire 149 = .ok (.putfield 220, 3) := by decide +kernel
theorem dX6_fire_152 : decode cX6_fire 152 = .ok (.aload 5, 2) := by decide +kernel
theorem dX6_fire_154 : decode cX6_fire 154 = .ok (.dup, 1) := by decide +kernel
theorem dX6_fire_155 : decode cX6_fire 155 = .ok (.getfield 83, 3) := by decide +kernel
theorem dX6_fire_158 : decode cX6_fire 158 = .ok (.iload 7, 2) := by decide +kernel
theorem dX6_fire_160 : decode cX6_fire 160 = .ok (.invokestatic 109, 3) := by decide +kernel
theorem dX6_fire_163 : decode cX6_fire 163 = .ok (.aload_n 0, 1) := by decide +kernel
theorem dX6_fire_164 : decode cX6_fire 164 = .ok (.getfield 31, 3) := by decide +kernel
theorem dX6_fire_167 : decode cX6_fire 167 = .ok (.getfield 229, 3) := by decide +kernel
theorem dX6_fire_170 : decode cX6_fire 170 = .ok (.iload 7, 2) := by decide +kernel
theorem dX6_fire_172 : decode cX6_fire 172 = .ok (.laload, 1) := by decide +kernel
theorem dX6_fire_173 : decode cX6_fire 173 = .ok (.lor, 1) := by decide +kernel
theorem dX6_fire_174 : decode cX6_fire 174 = .ok (.lor, 1) := by decide +kernel
theorem dX6_fire_175 : decode cX6_fire 175 = .ok (.putfield 83, 3) := by decide +kernel
theorem dX6_fire_178 : decode cX6_fire 178 = .ok (.aload 5, 2) := by decide +kernel
theorem dX6_fire_180 : decode cX6_fire 180 = .ok (.dup, 1) := by decide +kernel
theorem dX6_fire_181 : decode cX6_fire 181 = .ok (.getfield 87, 3) := by decide +kernel
theorem dX6_fire_184 : decode cX6_fire 184 = .ok (.iload 7, 2) := by decide +kernel
theorem dX6_fire_186 : decode cX6_fire 186 = .ok (.invokestatic 113, 3) := by decide +kernel
theorem dX6_fire_189 : decode cX6_fire 189 = .ok (.aload_n 0, 1) := by decide +kernel
theorem dX6_fire_190 : decode cX6_fire 190 = .ok (.getfield 31, 3) := by decide +kernel
theorem dX6_fire_193 : decode cX6_fire 193 = .ok (.getfield 231, 3) := by decide +kernel
theorem dX6_fire_196 : decode cX6_fire 196 = .ok (.iload 7, 2) := by decide +kernel
theorem dX6_fire_198 : decode cX6_fire 198 = .ok (.laload, 1) := by decide +kernel
theorem dX6_fire_199 : decode cX6_fire 199 = .ok (.lor, 1) := by decide +kernel
theorem dX6_fire_200 : decode cX6_fire 200 = .ok (.lor, 1) := by decide +kernel
theorem dX6_fire_201 : decode cX6_fire 201 = .ok (.putfield 87, 3) := by decide +kernel
theorem dX6_fire_204 : decode cX6_fire 204 = .ok (.iinc 6 1, 3) := by decide +kernel
theorem dX6_fire_207 : decode cX6_fire 207 = .ok (.goto (-126), 3) := by decide +kernel
theorem dX6_fire_210 : decode cX6_fire 210 = .ok (.return_, 1) := by decide +kernel
theorem dX6_advanceWaking_0 : decode cX6_advanceWaking 0 = .ok (.aload_n 1, 1) := by decide +kernel
theorem dX6_advanceWaking_1 : decode cX6_advanceWaking 1 = .ok (.getfield 74, 3) := by decide +kernel
theorem dX6_advanceWaking_4 : decode cX6_advanceWaking 4 = .ok (.istore_n 2, 1) := by decide +kernel
theorem dX6_advanceWaking_5 : decode cX6_advanceWaking 5 = .ok (.iload_n 2, 1) := by decide +kernel
theorem dX6_advanceWaking_6 : decode cX6_advanceWaking 6 = .ok (.aload_n 0, 1) := by decide +kernel
theorem dX6_advanceWaking_7 : decode cX6_advanceWaking 7 = .ok (.getfield 31, 3) := by decide +kernel
theorem dX6_advanceWaking_10 : decode cX6_advanceWaking 10 = .ok (.getfield 102, 3) := by decide +kernel
theorem dX6_advanceWaking_13 : decode cX6_advanceWaking 13 = .ok (.if_icmp .ge 53, 3) := by decide +kernel
theorem dX6_advanceWaking_16 : decode cX6_advanceWaking 16 = .ok (.iload_n 2, 1) := by decide +kernel
theorem dX6_advanceWaking_17 : decode cX6_advanceWaking 17 = .ok (.aload_n 1, 1) := by decide +kernel
theorem dX6_advanceWaking_18 : decode cX6_advanceWaking 18 = .ok (.getfield 83, 3) := by decide +kernel
theorem dX6_advanceWaking_21 : decode cX6_advanceWaking 21 = .ok (.aload_n 1, 1) := by decide +kernel
theorem dX6_advanceWaking_22 : decode cX6_advanceWaking 22 = .ok (.getfield 87, 3) := by decide +kernel
theorem dX6_advanceWaking_25 : decode cX6_advanceWaking 25 = .ok (.invokestatic 233, 3) := by decide +kernel
theorem dX6_advanceWaking_28 : decode cX6_advanceWaking 28 = .ok (.ifCond .eq 32, 3) := by decide +kernel
theorem dX6_advanceWaking_31 : decode cX6_advanceWaking 31 = .ok (.aload_n 0, 1) := by decide +kernel
theorem dX6_advanceWaking_32 : decode cX6_advanceWaking 32 = .ok (.getfield 31, 3) := by decide +kernel
theorem dX6_advanceWaking_35 : decode cX6_advanceWaking 35 = .ok (.getfield 126, 3) := by decide +kernel
theorem dX6_advanceWaking_38 : decode cX6_advanceWaking 38 = .ok (.iload_n 2, 1) := by decide +kernel
theorem dX6_advanceWaking_39 : decode cX6_advanceWaking 39 = .ok (.baload, 1) := by decide +kernel
theorem dX6_advanceWaking_40 : decode cX6_advanceWaking 40 = .ok (.ifCond .eq 20, 3) := by decide +kernel
theorem dX6_advanceWaking_43 : decode cX6_advanceWaking 43 = .ok (.aload_n 1, 1) := by decide +kernel
theorem dX6_advanceWaking_44 : decode cX6_advanceWaking 44 = .ok (.iload_n 2, 1) := by decide +kernel
theorem dX6_advanceWaking_45 : decode cX6_advanceWaking 45 = .ok (.iconst 1, 1) := by decide +kernel
theorem dX6_advanceWaking_46 : decode cX6_advanceWaking 46 = .ok (.iadd, 1) := by decide +kernel
theorem dX6_advanceWaking_47 : decode cX6_advanceWaking 47 = .ok (.putfield 74, 3) := by decide +kernel
theorem dX6_advanceWaking_50 : decode cX6_advanceWaking 50 = .ok (.aload_n 0, 1) := by decide +kernel
theorem dX6_advanceWaking_51 : decode cX6_advanceWaking 51 = .ok (.iconst 0, 1) := by decide +kernel
theorem dX6_advanceWaking_52 : decode cX6_advanceWaking 52 = .ok (.invokevirtual 94, 3) := by decide +kernel
theorem dX6_advanceWaking_55 : decode cX6_advanceWaking 55 = .ok (.iload_n 2, 1) := by decide +kernel
theorem dX6_advanceWaking_56 : decode cX6_advanceWaking 56 = .ok (.putfield 74, 3) := by decide +kernel
theorem dX6_advanceWaking_59 : decode cX6_advanceWaking 59 = .ok (.return_, 1) := by decide +kernel
theorem dX6_advanceWaking_60 : decode cX6_advanceWaking 60 = .ok (.iinc 2 1, 3) := by decide +kernel
theorem dX6_advanceWaking_63 : decode cX6_advanceWaking 63 = .ok (.goto (-58), 3) := by decide +kernel
theorem dX6_advanceWaking_66 : decode cX6_advanceWaking 66 = .ok (.aload_n 0, 1) := by decide +kernel
theorem dX6_advanceWaking_67 : decode cX6_advanceWaking 67 = .ok (.dup, 1) := by decide +kernel
theorem dX6_advanceWaking_68 : decode cX6_advanceWaking 68 = .ok (.getfield 40, 3) := by decide +kernel
theorem dX6_advanceWaking_71 : decode cX6_advanceWaking 71 = .ok (.iconst 1, 1) := by decide +kernel
theorem dX6_advanceWaking_72 : decode cX6_advanceWaking 72 = .ok (.isub, 1) := by decide +kernel
theorem dX6_advanceWaking_73 : decode cX6_advanceWaking 73 = .ok (.putfield 40, 3) := by decide +kernel
theorem dX6_advanceWaking_76 : decode cX6_advanceWaking 76 = .ok (.return_, 1) := by decide +kernel
theorem dX6_advanceBodies_0 : decode cX6_advanceBodies 0 = .ok (.aload_n 0, 1) := by decide +kernel
theorem dX6_advanceBodies_1 : decode cX6_advanceBodies 1 = .ok (.getfield 35, 3) := by decide +kernel
theorem dX6_advanceBodies_4 : decode cX6_advanceBodies 4 = .ok (.aload_n 1, 1) := by decide +kernel
theorem dX6_advanceBodies_5 : decode cX6_advanceBodies 5 = .ok (.getfield 217, 3) := by decide +kernel
theorem dX6_advanceBodies_8 : decode cX6_advanceBodies 8 = .ok (.aaload, 1) := by decide +kernel
theorem dX6_advanceBodies_9 : decode cX6_advanceBodies 9 = .ok (.astore_n 2, 1) := by decide +kernel
theorem dX6_advanceBodies_10 : decode cX6_advanceBodies 10 = .ok (.aload_n 1, 1) := by decide +kernel
theorem dX6_advanceBodies_11 : decode cX6_advanceBodies 11 = .ok (.getfield 80, 3) := by decide +kernel
theorem dX6_advanceBodies_14 : decode cX6_advanceBodies 14 = .ok (.istore_n 3, 1) := by decide +kernel
theorem dX6_advanceBodies_15 : decode cX6_advanceBodies 15 = .ok (.iload_n 3, 1) := by decide +kernel
theorem dX6_advanceBodies_16 : decode cX6_advanceBodies 16 = .ok (.aload_n 2, 1) := by decide +kernel
theorem dX6_advanceBodies_17 : decode cX6_advanceBodies 17 = .ok (.getfield 237, 3) := by decide +kernel
theorem dX6_advanceBodies_20 : decode cX6_advanceBodies 20 = .ok (.if_icmp .lt 14, 3) := by decide +kernel
theorem dX6_advanceBodies_23 : decode cX6_advanceBodies 23 = .ok (.aload_n 0, 1) := by decide +kernel
theorem dX6_advanceBodies_24 : decode cX6_advanceBodies 24 = .ok (.dup, 1) := by decide +kernel
theorem dX6_advanceBodies_25 : decode cX6_advanceBodies 25 = .ok (.getfield 40, 3) := by decide +kernel
theorem dX6_advanceBodies_28 : decode cX6_advanceBodies 28 = .ok (.iconst 1, 1) := by decide +kernel
theorem dX6_advanceBodies_29 : decode cX6_advanceBodies 29 = .ok (.isub, 1) := by decide +kernel
theorem dX6_advanceBodies_30 : decode cX6_advanceBodies 30 = .ok (.putfield 40, 3) := by decide +kernel
theorem dX6_advanceBodies_33 : decode cX6_advanceBodies 33 = .ok (.return_, 1) := by decide +kernel
theorem dX6_advanceBodies_34 : decode cX6_advanceBodies 34 = .ok (.aload_n 1, 1) := by decide +kernel
theorem dX6_advanceBodies_35 : decode cX6_advanceBodies 35 = .ok (.dup, 1) := by decide +kernel
theorem dX6_advanceBodies_36 : decode cX6_advanceBodies 36 = .ok (.getfield 80, 3) := by decide +kernel
theorem dX6_advanceBodies_39 : decode cX6_advanceBodies 39 = .ok (.iconst 1, 1) := by decide +kernel
theorem dX6_advanceBodies_40 : decode cX6_advanceBodies 40 = .ok (.iadd, 1) := by decide +kernel
theorem dX6_advanceBodies_41 : decode cX6_advanceBodies 41 = .ok (.putfield 80, 3) := by decide +kernel
theorem dX6_advanceBodies_44 : decode cX6_advanceBodies 44 = .ok (.aload_n 2, 1) := by decide +kernel
theorem dX6_advanceBodies_45 : decode cX6_advanceBodies 45 = .ok (.getfield 240, 3) := by decide +kernel
theorem dX6_advanceBodies_48 : decode cX6_advanceBodies 48 = .ok (.iconst 2, 1) := by decide +kernel
theorem dX6_advanceBodies_49 : decode cX6_advanceBodies 49 = .ok (.iload_n 3, 1) := by decide +kernel
theorem dX6_advanceBodies_50 : decode cX6_advanceBodies 50 = .ok (.imul, 1) := by decide +kernel
theorem dX6_advanceBodies_51 : decode cX6_advanceBodies 51 = .ok (.iaload, 1) := by decide +kernel
theorem dX6_advanceBodies_52 : decode cX6_advanceBodies 52 = .ok (.aload_n 1, 1) := by decide +kernel
theorem dX6_advanceBodies_53 : decode cX6_advanceBodies 53 = .ok (.getfield 223, 3) := by decide +kernel
theorem dX6_advanceBodies_56 : decode cX6_advanceBodies 56 = .ok (.invokestatic 170, 3) := by decide +kernel
theorem dX6_advanceBodies_59 : decode cX6_advanceBodies 59 = .ok (.istore 4, 2) := by decide +kernel
theorem dX6_advanceBodies_61 : decode cX6_advanceBodies 61 = .ok (.aload_n 2, 1) := by decide +kernel
theorem dX6_advanceBodies_62 : decode cX6_advanceBodies 62 = .ok (.getfield 240, 3) := by decide +kernel
theorem dX6_advanceBodies_65 : decode cX6_advanceBodies 65 = .ok (.iconst 2, 1) := by decide +kernel
theorem dX6_advanceBodies_66 : decode cX6_advanceBodies 66 = .ok (.iload_n 3, 1) := by decide +kernel
theorem dX6_advanceBodies_67 : decode cX6_advanceBodies 67 = .ok (.imul, 1) := by decide +kernel
theorem dX6_advanceBodies_68 : decode cX6_advanceBodies 68 = .ok (.iconst 1, 1) := by decide +kernel
theorem dX6_advanceBodies_69 : decode cX6_advanceBodies 69 = .ok (.iadd, 1) := by decide +kernel
theorem dX6_advanceBodies_70 : decode cX6_advanceBodies 70 = .ok (.iaload, 1) := by decide +kernel
theorem dX6_advanceBodies_71 : decode cX6_advanceBodies 71 = .ok (.aload_n 1, 1) := by decide +kernel
theorem dX6_advanceBodies_72 : decode cX6_advanceBodies 72 = .ok (.getfield 223, 3) := by decide +kernel
theorem dX6_advanceBodies_75 : decode cX6_advanceBodies 75 = .ok (.invokestatic 170, 3) := by decide +kernel
theorem dX6_advanceBodies_78 : decode cX6_advanceBodies 78 = .ok (.istore 5, 2) := by decide +kernel
theorem dX6_advanceBodies_80 : decode cX6_advanceBodies 80 = .ok (.aload_n 2, 1) := by decide +kernel
theorem dX6_advanceBodies_81 : decode cX6_advanceBodies 81 = .ok (.getfield 243, 3) := by decide +kernel
theorem dX6_advanceBodies_84 : decode cX6_advanceBodies 84 = .ok (.iload_n 3, 1) := by decide +kernel
theorem dX6_advanceBodies_85 : decode cX6_advanceBodies 85 = .ok (.iaload, 1) := by decide +kernel
theorem dX6_advanceBodies_86 : decode cX6_advanceBodies 86 = .ok (.iconst (-1), 1) := by decide +kernel
theorem dX6_advanceBodies_87 : decode cX6_advanceBodies 87 = .ok (.if_icmp .ne 14, 3) := by decide +kernel
theorem dX6_advanceBodies_90 : decode cX6_advanceBodies 90 = .ok (.aload_n 0, 1) := by decide +kernel
theorem dX6_advanceBodies_91 : decode cX6_advanceBodies 91 = .ok (.iload 4, 2) := by decide +kernel
theorem dX6_advanceBodies_93 : decode cX6_advanceBodies 93 = .ok (.iload 5, 2) := by decide +kernel
theorem dX6_advanceBodies_95 : decode cX6_advanceBodies 95 = .ok (.invokevirtual 246, 3) := by decide +kernel
theorem dX6_advanceBodies_98 : decode cX6_advanceBodies 98 = .ok (.goto 29, 3) := by decide +kernel
theorem dX6_advanceBodies_101 : decode cX6_advanceBodies 101 = .ok (.aload_n 0, 1) := by decide +kernel
theorem dX6_advanceBodies_102 : decode cX6_advanceBodies 102 = .ok (.aload_n 2, 1) := by decide +kernel
theorem dX6_advanceBodies_103 : decode cX6_advanceBodies 103 = .ok (.getfield 243, 3) := by decide +kernel
theorem dX6_advanceBodies_106 : decode cX6_advanceBodies 106 = .ok (.iload_n 3, 1) := by decide +kernel
theorem dX6_advanceBodies_107 : decode cX6_advanceBodies 107 = .ok (.iaload, 1) := by decide +kernel
theorem dX6_advanceBodies_108 : decode cX6_advanceBodies 108 = .ok (.iload 4, 2) := by decide +kernel
theorem dX6_advanceBodies_110 : decode cX6_advanceBodies 110 = .ok (.iload 5, 2) := by decide +kernel
theorem dX6_advanceBodies_112 : decode cX6_advanceBodies 112 = .ok (.aload_n 1, 1) := by decide +kernel
theorem dX6_advanceBodies_113 : decode cX6_advanceBodies 113 = .ok (.getfield 220, 3) := by decide +kernel
theorem dX6_advanceBodies_116 : decode cX6_advanceBodies 116 = .ok (.aload_n 1, 1) := by decide +kernel
theorem dX6_advanceBodies_117 : decode cX6_advanceBodies 117 = .ok (.getfield 83, 3) := by decide +kernel
theorem dX6_advanceBodies_120 : decode cX6_advanceBodies 120 = .ok (.aload_n 1, 1) := by decide +kernel
theorem dX6_advanceBodies_121 : decode cX6_advanceBodies 121 = .ok (.getfield 87, 3) := by decide +kernel
theorem dX6_advanceBodies_124 : decode cX6_advanceBodies 124 = .ok (.invokevirtual 250, 3) := by decide +kernel
theorem dX6_advanceBodies_127 : decode cX6_advanceBodies 127 = .ok (.return_, 1) := by decide +kernel
theorem dX7_init_0 : decode cX7_init 0 = .ok (.aload_n 0, 1) := by decide +kernel
theorem dX7_init_1 : decode cX7_init 1 = .ok (.invokespecial 3, 3) := by decide +kernel
theorem dX7_init_4 : decode cX7_init 4 = .ok (.aload_n 0, 1) := by decide +kernel
theorem dX7_init_5 : decode cX7_init 5 = .ok (.iconst 2, 1) := by decide +kernel
theorem dX7_init_6 : decode cX7_init 6 = .ok (.newarray .int, 2) := by decide +kernel
theorem dX7_init_8 : decode cX7_init 8 = .ok (.putfield 9, 3) := by decide +kernel
theorem dX7_init_11 : decode cX7_init 11 = .ok (.aload_n 0, 1) := by decide +kernel
theorem dX7_init_12 : decode cX7_init 12 = .ok (.iconst 4, 1) := by decide +kernel
theorem dX7_init_13 : decode cX7_init 13 = .ok (.newarray .int, 2) := by decide +kernel
theorem dX7_init_15 : decode cX7_init 15 = .ok (.putfield 15, 3) := by decide +kernel
theorem dX7_init_18 : decode cX7_init 18 = .ok (.aload_n 0, 1) := by decide +kernel
theorem dX7_init_19 : decode cX7_init 19 = .ok (.iconst 2, 1) := by decide +kernel
theorem dX7_init_20 : decode cX7_init 20 = .ok (.newarray .boolean, 2) := by decide +kernel
theorem dX7_init_22 : decode cX7_init 22 = .ok (.putfield 18, 3) := by decide +kernel
theorem dX7_init_25 : decode cX7_init 25 = .ok (.aload_n 0, 1) := by decide +kernel
theorem dX7_init_26 : decode cX7_init 26 = .ok (.iconst 2, 1) := by decide +kernel
theorem dX7_init_27 : decode cX7_init 27 = .ok (.newarray .int, 2) := by decide +kernel
theorem dX7_init_29 : decode cX7_init 29 = .ok (.putfield 22, 3) := by decide +kernel
theorem dX7_init_32 : decode cX7_init 32 = .ok (.aload_n 0, 1) := by decide +kernel
theorem dX7_init_33 : decode cX7_init 33 = .ok (.iconst 4, 1) := by decide +kernel
theorem dX7_init_34 : decode cX7_init 34 = .ok (.newarray .int, 2) := by decide +kernel
theorem dX7_init_36 : decode cX7_init 36 = .ok (.putfield 25, 3) := by decide +kernel
theorem dX7_init_39 : decode cX7_init 39 = .ok (.return_, 1) := by decide +kernel
theorem dX7_removesNone_0 : decode cX7_removesNone 0 = .ok (.aload_n 0, 1) := by decide +kernel
theorem dX7_removesNone_1 : decode cX7_removesNone 1 = .ok (.getfield 18, 3) := by decide +kernel
theorem dX7_removesNone_4 : decode cX7_removesNone 4 = .ok (.iconst 0, 1) := by decide +kernel
theorem dX7_removesNone_5 : decode cX7_removesNone 5 = .ok (.baload, 1) := by decide +kernel
theorem dX7_removesNone_6 : decode cX7_removesNone 6 = .ok (.ifCond .eq 24, 3) := by decide +kernel
theorem dX7_removesNone_9 : decode cX7_removesNone 9 = .ok (.aload_n 0, 1) := by decide +kernel
theorem dX7_removesNone_10 : decode cX7_removesNone 10 = .ok (.getfield 28, 3) := by decide +kernel
theorem dX7_removesNone_13 : decode cX7_removesNone 13 = .ok (.iconst 2, 1) := by decide +kernel
theorem dX7_removesNone_14 : decode cX7_removesNone 14 = .ok (.if_icmp .lt 12, 3) := by decide +kernel
theorem dX7_removesNone_17 : decode cX7_removesNone 17 = .ok (.aload_n 0, 1) := by decide +kernel
theorem dX7_removesNone_18 : decode cX7_removesNone 18 = .ok (.getfield 18, 3) := by decide +kernel
theorem dX7_removesNone_21 : decode cX7_removesNone 21 = .ok (.iconst 1, 1) := by decide +kernel
theorem dX7_removesNone_22 : decode cX7_removesNone 22 = .ok (.baload, 1) := by decide +kernel
theorem dX7_removesNone_23 : decode cX7_removesNone 23 = .ok (.ifCond .eq 7, 3) := by decide +kernel
theorem dX7_removesNone_26 : decode cX7_removesNone 26 = .ok (.iconst 1, 1) := by decide +kernel
theorem dX7_removesNone_27 : decode cX7_removesNone 27 = .ok (.goto 4, 3) := by decide +kernel
theorem dX7_removesNone_30 : decode cX7_removesNone 30 = .ok (.iconst 0, 1) := by decide +kernel
theorem dX7_removesNone_31 : decode cX7_removesNone 31 = .ok (.ireturn, 1) := by decide +kernel
theorem dX8_init_0 : decode cX8_init 0 = .ok (.aload_n 0, 1) := by decide +kernel
theorem dX8_init_1 : decode cX8_init 1 = .ok (.invokespecial 3, 3) := by decide +kernel
theorem dX8_init_4 : decode cX8_init 4 = .ok (.aload_n 0, 1) := by decide +kernel
theorem dX8_init_5 : decode cX8_init 5 = .ok (.bipush 60, 2) := by decide +kernel
theorem dX8_init_7 : decode cX8_init 7 = .ok (.newarray .int, 2) := by decide +kernel
theorem dX8_init_9 : decode cX8_init 9 = .ok (.putfield 9, 3) := by decide +kernel
theorem dX8_init_12 : decode cX8_init 12 = .ok (.aload_n 0, 1) := by decide +kernel
theorem dX8_init_13 : decode cX8_init 13 = .ok (.bipush 60, 2) := by decide +kernel
theorem dX8_init_15 : decode cX8_init 15 = .ok (.newarray .int, 2) := by decide +kernel
theorem dX8_init_17 : decode cX8_init 17 = .ok (.putfield 15, 3) := by decide +kernel
theorem dX8_init_20 : decode cX8_init 20 = .ok (.aload_n 0, 1) := by decide +kernel
theorem dX8_init_21 : decode cX8_init 21 = .ok (.bipush 100, 2) := by decide +kernel
theorem dX8_init_23 : decode cX8_init 23 = .ok (.newarray .int, 2) := by decide +kernel
theorem dX8_init_25 : decode cX8_init 25 = .ok (.putfield 18, 3) := by decide +kernel
theorem dX8_init_28 : decode cX8_init 28 = .ok (.aload_n 0, 1) := by decide +kernel
theorem dX8_init_29 : decode cX8_init 29 = .ok (.bipush 100, 2) := by decide +kernel
theorem dX8_init_31 : decode cX8_init 31 = .ok (.newarray .int, 2) := by decide +kernel
theorem dX8_init_33 : decode cX8_init 33 = .ok (.putfield 21, 3) := by decide +kernel
theorem dX8_init_36 : decode cX8_init 36 = .ok (.aload_n 0, 1) := by decide +kernel
theorem dX8_init_37 : decode cX8_init 37 = .ok (.bipush 100, 2) := by decide +kernel
theorem dX8_init_39 : decode cX8_init 39 = .ok (.newarray .int, 2) := by decide +kernel
theorem dX8_init_41 : decode cX8_init 41 = .ok (.putfield 24, 3) := by decide +kernel
theorem dX8_init_44 : decode cX8_init 44 = .ok (.aload_n 0, 1) := by decide +kernel
theorem dX8_init_45 : decode cX8_init 45 = .ok (.bipush 100, 2) := by decide +kernel
theorem dX8_init_47 : decode cX8_init 47 = .ok (.newarray .boolean, 2) := by decide +kernel
theorem dX8_init_49 : decode cX8_init 49 = .ok (.putfield 27, 3) := by decide +kernel
theorem dX8_init_52 : decode cX8_init 52 = .ok (.aload_n 0, 1) := by decide +kernel
theorem dX8_init_53 : decode cX8_init 53 = .ok (.bipush 100, 2) := by decide +kernel
theorem dX8_init_55 : decode cX8_init 55 = .ok (.newarray .boolean, 2) := by decide +kernel
theorem dX8_init_57 : decode cX8_init 57 = .ok (.putfield 31, 3) := by decide +kernel
theorem dX8_init_60 : decode cX8_init 60 = .ok (.aload_n 0, 1) := by decide +kernel
theorem dX8_init_61 : decode cX8_init 61 = .ok (.bipush 100, 2) := by decide +kernel
theorem dX8_init_63 : decode cX8_init 63 = .ok (.newarray .long, 2) := by decide +kernel
theorem dX8_init_65 : decode cX8_init 65 = .ok (.putfield 34, 3) := by decide +kernel
theorem dX8_init_68 : decode cX8_init 68 = .ok (.aload_n 0, 1) := by decide +kernel
theorem dX8_init_69 : decode cX8_init 69 = .ok (.bipush 100, 2) := by decide +kernel
theorem dX8_init_71 : decode cX8_init 71 = .ok (.newarray .long, 2) := by decide +kernel
theorem dX8_init_73 : decode cX8_init 73 = .ok (.putfield 38, 3) := by decide +kernel
theorem dX8_init_76 : decode cX8_init 76 = .ok (.return_, 1) := by decide +kernel
theorem dX8_lowBit_0 : decode cX8_lowBit 0 = .ok (.iload_n 0, 1) := by decide +kernel
theorem dX8_lowBit_1 : decode cX8_lowBit 1 = .ok (.bipush 64, 2) := by decide +kernel
theorem dX8_lowBit_3 : decode cX8_lowBit 3 = .ok (.if_icmp .ge 9, 3) := by decide +kernel
theorem dX8_lowBit_6 : decode cX8_lowBit 6 = .ok (.lconst 1, 1) := by decide +kernel
theorem dX8_lowBit_7 : decode cX8_lowBit 7 = .ok (.iload_n 0, 1) := by decide +kernel
theorem dX8_lowBit_8 : decode cX8_lowBit 8 = .ok (.lshl, 1) := by decide +kernel
theorem dX8_lowBit_9 : decode cX8_lowBit 9 = .ok (.goto 4, 3) := by decide +kernel
theorem dX8_lowBit_12 : decode cX8_lowBit 12 = .ok (.lconst 0, 1) := by decide +kernel
theorem dX8_lowBit_13 : decode cX8_lowBit 13 = .ok (.lreturn, 1) := by decide +kernel
theorem dX8_highBit_0 : decode cX8_highBit 0 = .ok (.iload_n 0, 1) := by decide +kernel
theorem dX8_highBit_1 : decode cX8_highBit 1 = .ok (.bipush 64, 2) := by decide +kernel
theorem dX8_highBit_3 : decode cX8_highBit 3 = .ok (.if_icmp .ge 7, 3) := by decide +kernel
theorem dX8_highBit_6 : decode cX8_highBit 6 = .ok (.lconst 0, 1) := by decide +kernel
theorem dX8_highBit_7 : decode cX8_highBit 7 = .ok (.goto 9, 3) := by decide +kernel
theorem dX8_highBit_10 : decode cX8_highBit 10 = .ok (.lconst 1, 1) := by decide +kernel
theorem dX8_highBit_11 : decode cX8_highBit 11 = .ok (.iload_n 0, 1) := by decide +kernel
theorem dX8_highBit_12 : decode cX8_highBit 12 = .ok (.bipush 64, 2) := by decide +kernel
theorem dX8_highBit_14 : decode cX8_highBit 14 = .ok (.isub, 1) := by decide +kernel
theorem dX8_highBit_15 : decode cX8_highBit 15 = .ok (.lshl, 1) := by decide +kernel
theorem dX8_highBit_16 : decode cX8_highBit 16 = .ok (.lreturn, 1) := by decide +kernel
theorem dX8_isIn_0 : decode cX8_isIn 0 = .ok (.iload_n 0, 1) := by decide +kernel
theorem dX8_isIn_1 : decode cX8_isIn 1 = .ok (.invokestatic 41, 3) := by decide +kernel
theorem dX8_isIn_4 : decode cX8_isIn 4 = .ok (.lload_n 1, 1) := by decide +kernel
theorem dX8_isIn_5 : decode cX8_isIn 5 = .ok (.land, 1) := by decide +kernel
theorem dX8_isIn_6 : decode cX8_isIn 6 = .ok (.iload_n 0, 1) := by decide +kernel
theorem dX8_isIn_7 : decode cX8_isIn 7 = .ok (.invokestatic 45, 3) := by decide +kernel
theorem dX8_isIn_10 : decode cX8_isIn 10 = .ok (.lload_n 3, 1) := by decide +kernel
theorem dX8_isIn_11 : decode cX8_isIn 11 = .ok (.land, 1) := by decide +kernel
theorem dX8_isIn_12 : decode cX8_isIn 12 = .ok (.lor, 1) := by decide +kernel
theorem dX8_isIn_13 : decode cX8_isIn 13 = .ok (.lconst 0, 1) := by decide +kernel
theorem dX8_isIn_14 : decode cX8_isIn 14 = .ok (.lcmp, 1) := by decide +kernel
theorem dX8_isIn_15 : decode cX8_isIn 15 = .ok (.ifCond .eq 7, 3) := by decide +kernel
theorem dX8_isIn_18 : decode cX8_isIn 18 = .ok (.iconst 1, 1) := by decide +kernel
theorem dX8_isIn_19 : decode cX8_isIn 19 = .ok (.goto 4, 3) := by decide +kernel
theorem dX8_isIn_22 : decode cX8_isIn 22 = .ok (.iconst 0, 1) := by decide +kernel
theorem dX8_isIn_23 : decode cX8_isIn 23 = .ok (.ireturn, 1) := by decide +kernel
theorem dX8_clear_0 : decode cX8_clear 0 = .ok (.aload_n 0, 1) := by decide +kernel
theorem dX8_clear_1 : decode cX8_clear 1 = .ok (.iconst 0, 1) := by decide +kernel
theorem dX8_clear_2 : decode cX8_clear 2 = .ok (.putfield 48, 3) := by decide +kernel
theorem dX8_clear_5 : decode cX8_clear 5 = .ok (.aload_n 0, 1) := by decide +kernel
theorem dX8_clear_6 : decode cX8_clear 6 = .ok (.iconst 0, 1) := by decide +kernel
theorem dX8_clear_7 : decode cX8_clear 7 = .ok (.putfield 52, 3) := by decide +kernel
theorem dX8_clear_10 : decode cX8_clear 10 = .ok (.aload_n 0, 1) := by decide +kernel
theorem dX8_clear_11 : decode cX8_clear 11 = .ok (.iconst 0, 1) := by decide +kernel
theorem dX8_clear_12 : decode cX8_clear 12 = .ok (.putfield 55, 3) := by decide +kernel
theorem dX8_clear_15 : decode cX8_clear 15 = .ok (.aload_n 0, 1) := by decide +kernel
theorem dX8_clear_16 : decode cX8_clear 16 = .ok (.iconst 0, 1) := by decide +kernel
theorem dX8_clear_17 : decode cX8_clear 17 = .ok (.putfield 58, 3) := by decide +kernel
theorem dX8_clear_20 : decode cX8_clear 20 = .ok (.return_, 1) := by decide +kernel
theorem dX8_copyFrom_0 : decode cX8_copyFrom 0 = .ok (.aload_n 0, 1) := by decide +kernel
theorem dX8_copyFrom_1 : decode cX8_copyFrom 1 = .ok (.aload_n 1, 1) := by decide +kernel
theorem dX8_copyFrom_2 : decode cX8_copyFrom 2 = .ok (.getfield 48, 3) := by decide +kernel
theorem dX8_copyFrom_5 : decode cX8_copyFrom 5 = .ok (.putfield 48, 3) := by decide +kernel
theorem dX8_copyFrom_8 : decode cX8_copyFrom 8 = .ok (.aload_n 0, 1) := by decide +kernel
theorem dX8_copyFrom_9 : decode cX8_copyFrom 9 = .ok (.aload_n 1, 1) := by decide +kernel
theorem dX8_copyFrom_10 : decode cX8_copyFrom 10 = .ok (.getfield 52, 3) := by decide +kernel
theorem dX8_copyFrom_13 : decode cX8_copyFrom 13 = .ok (.putfield 52, 3) := by decide +kernel
theorem dX8_copyFrom_16 : decode cX8_copyFrom 16 = .ok (.aload_n 0, 1) := by decide +kernel
theorem dX8_copyFrom_17 : decode cX8_copyFrom 17 = .ok (.aload_n 1, 1) := by decide +kernel
theorem dX8_copyFrom_18 : decode cX8_copyFrom 18 = .ok (.getfield 55, 3) := by decide +kernel
theorem dX8_copyFrom_21 : decode cX8_copyFrom 21 = .ok (.putfield 55, 3) := by decide +kernel
theorem dX8_copyFrom_24 : decode cX8_copyFrom 24 = .ok (.aload_n 0, 1) := by decide +kernel
theorem dX8_copyFrom_25 : decode cX8_copyFrom 25 = .ok (.aload_n 1, 1) := by decide +kernel
theorem dX8_copyFrom_26 : decode cX8_copyFrom 26 = .ok (.getfield 58, 3) := by decide +kernel
theorem dX8_copyFrom_29 : decode cX8_copyFrom 29 = .ok (.putfield 58, 3) := by decide +kernel
theorem dX8_copyFrom_32 : decode cX8_copyFrom 32 = .ok (.aload_n 1, 1) := by decide +kernel
theorem dX8_copyFrom_33 : decode cX8_copyFrom 33 = .ok (.getfield 9, 3) := by decide +kernel
theorem dX8_copyFrom_36 : decode cX8_copyFrom 36 = .ok (.iconst 0, 1) := by decide +kernel
theorem dX8_copyFrom_37 : decode cX8_copyFrom 37 = .ok (.aload_n 0, 1) := by decide +kernel
theorem dX8_copyFrom_38 : decode cX8_copyFrom 38 = .ok (.getfield 9, 3) := by decide +kernel
theorem dX8_copyFrom_41 : decode cX8_copyFrom 41 = .ok (.iconst 0, 1) := by decide +kernel
theorem dX8_copyFrom_42 : decode cX8_copyFrom 42 = .ok (.bipush 60, 2) := by decide +kernel
theorem dX8_copyFrom_44 : decode cX8_copyFrom 44 = .ok (.invokestatic 62, 3) := by decide +kernel
theorem dX8_copyFrom_47 : decode cX8_copyFrom 47 = .ok (.aload_n 1, 1) := by decide +kernel
theorem dX8_copyFrom_48 : decode cX8_copyFrom 48 = .ok (.getfield 15, 3) := by decide +kernel
theorem dX8_copyFrom_51 : decode cX8_copyFrom 51 = .ok (.iconst 0, 1) := by decide +kernel
theorem dX8_copyFrom_52 : decode cX8_copyFrom 52 = .ok (.aload_n 0, 1) := by decide +kernel
theorem dX8_copyFrom_53 : decode cX8_copyFrom 53 = .ok (.getfield 15, 3) := by decide +kernel
theorem dX8_copyFrom_56 : decode cX8_copyFrom 56 = .ok (.iconst 0, 1) := by decide +kernel
theorem dX8_copyFrom_57 : decode cX8_copyFrom 57 = .ok (.bipush 60, 2) := by decide +kernel
theorem dX8_copyFrom_59 : decode cX8_copyFrom 59 = .ok (.invokestatic 62, 3) := by decide +kernel
theorem dX8_copyFrom_62 : decode cX8_copyFrom 62 = .ok (.aload_n 1, 1) := by decide +kernel
theorem dX8_copyFrom_63 : decode cX8_copyFrom 63 = .ok (.getfield 18, 3) := by decide +kernel
theorem dX8_copyFrom_66 : decode cX8_copyFrom 66 = .ok (.iconst 0, 1) := by decide +kernel
theorem dX8_copyFrom_67 : decode cX8_copyFrom 67 = .ok (.aload_n 0, 1) := by decide +kernel
theorem dX8_copyFrom_68 : decode cX8_copyFrom 68 = .ok (.getfield 18, 3) := by decide +kernel
theorem dX8_copyFrom_71 : decode cX8_copyFrom 71 = .ok (.iconst 0, 1) := by decide +kernel
theorem dX8_copyFrom_72 : decode cX8_copyFrom 72 = .ok (.bipush 100, 2) := by decide +kernel
theorem dX8_copyFrom_74 : decode cX8_copyFrom 74 = .ok (.invokestatic 62, 3) := by decide +kernel
theorem dX8_copyFrom_77 : decode cX8_copyFrom 77 = .ok (.aload_n 1, 1) := by decide +kernel
theorem dX8_copyFrom_78 : decode cX8_copyFrom 78 = .ok (.getfield 21, 3) := by decide +kernel
theorem dX8_copyFrom_81 : decode cX8_copyFrom 81 = .ok (.iconst 0, 1) := by decide +kernel
theorem dX8_copyFrom_82 : decode cX8_copyFrom 82 = .ok (.aload_n 0, 1) := by decide +kernel
theorem dX8_copyFrom_83 : decode cX8_copyFrom 83 = .ok (.getfield 21, 3) := by decide +kernel
theorem dX8_copyFrom_86 : decode cX8_copyFrom 86 = .ok (.iconst 0, 1) := by decide +kernel
theorem dX8_copyFrom_87 : decode cX8_copyFrom 87 = .ok (.bipush 100, 2) := by decide +kernel
theorem dX8_copyFrom_89 : decode cX8_copyFrom 89 = .ok (.invokestatic 62, 3) := by decide +kernel
theorem dX8_copyFrom_92 : decode cX8_copyFrom 92 = .ok (.aload_n 1, 1) := by decide +kernel
theorem dX8_copyFrom_93 : decode cX8_copyFrom 93 = .ok (.getfield 24, 3) := by decide +kernel
theorem dX8_copyFrom_96 : decode cX8_copyFrom 96 = .ok (.iconst 0, 1) := by decide +kernel
theorem dX8_copyFrom_97 : decode cX8_copyFrom 97 = .ok (.aload_n 0, 1) := by decide +kernel
theorem dX8_copyFrom_98 : decode cX8_copyFrom 98 = .ok (.getfield 24, 3) := by decide +kernel
theorem dX8_copyFrom_101 : decode cX8_copyFrom 101 = .ok (.iconst 0, 1) := by decide +kernel
theorem dX8_copyFrom_102 : decode cX8_copyFrom 102 = .ok (.bipush 100, 2) := by decide +kernel
theorem dX8_copyFrom_104 : decode cX8_copyFrom 104 = .ok (.invokestatic 62, 3) := by decide +kernel
theorem dX8_copyFrom_107 : decode cX8_copyFrom 107 = .ok (.aload_n 1, 1) := by decide +kernel
theorem dX8_copyFrom_108 : decode cX8_copyFrom 108 = .ok (.getfield 27, 3) := by decide +kernel
theorem dX8_copyFrom_111 : decode cX8_copyFrom 111 = .ok (.iconst 0, 1) := by decide +kernel
theorem dX8_copyFrom_112 : decode cX8_copyFrom 112 = .ok (.aload_n 0, 1) := by decide +kernel
theorem dX8_copyFrom_113 : decode cX8_copyFrom 113 = .ok (.getfield 27, 3) := by decide +kernel
theorem dX8_copyFrom_116 : decode cX8_copyFrom 116 = .ok (.iconst 0, 1) := by decide +kernel
theorem dX8_copyFrom_117 : decode cX8_copyFrom 117 = .ok (.bipush 100, 2) := by decide +kernel
theorem dX8_copyFrom_119 : decode cX8_copyFrom 119 = .ok (.invokestatic 62, 3) := by decide +kernel
theorem dX8_copyFrom_122 : decode cX8_copyFrom 122 = .ok (.aload_n 1, 1) := by decide +kernel
theorem dX8_copyFrom_123 : decode cX8_copyFrom 123 = .ok (.getfield 31, 3) := by decide +kernel
theorem dX8_copyFrom_126 : decode cX8_copyFrom 126 = .ok (.iconst 0, 1) := by decide +kernel
theorem dX8_copyFrom_127 : decode cX8_copyFrom 127 = .ok (.aload_n 0, 1) := by decide +kernel
theorem dX8_copyFrom_128 : decode cX8_copyFrom 128 = .ok (.getfield 31, 3) := by decide +kernel
theorem dX8_copyFrom_131 : decode cX8_copyFrom 131 = .ok (.iconst 0, 1) := by decide +kernel
theorem dX8_copyFrom_132 : decode cX8_copyFrom 132 = .ok (.bipush 100, 2) := by decide +kernel
theorem dX8_copyFrom_134 : decode cX8_copyFrom 134 = .ok (.invokestatic 62, 3) := by decide +kernel
theorem dX8_copyFrom_137 : decode cX8_copyFrom 137 = .ok (.aload_n 1, 1) := by decide +kernel
theorem dX8_copyFrom_138 : decode cX8_copyFrom 138 = .ok (.getfield 34, 3) := by decide +kernel
theorem dX8_copyFrom_141 : decode cX8_copyFrom 141 = .ok (.iconst 0, 1) := by decide +kernel
theorem dX8_copyFrom_142 : decode cX8_copyFrom 142 = .ok (.aload_n 0, 1) := by decide +kernel
theorem dX8_copyFrom_143 : decode cX8_copyFrom 143 = .ok (.getfield 34, 3) := by decide +kernel
theorem dX8_copyFrom_146 : decode cX8_copyFrom 146 = .ok (.iconst 0, 1) := by decide +kernel
theorem dX8_copyFrom_147 : decode cX8_copyFrom 147 = .ok (.bipush 100, 2) := by decide +kernel
theorem dX8_copyFrom_149 : decode cX8_copyFrom 149 = .ok (.invokestatic 62, 3) := by decide +kernel
theorem dX8_copyFrom_152 : decode cX8_copyFrom 152 = .ok (.aload_n 1, 1) := by decide +kernel
theorem dX8_copyFrom_153 : decode cX8_copyFrom 153 = .ok (.getfield 38, 3) := by decide +kernel
theorem dX8_copyFrom_156 : decode cX8_copyFrom 156 = .ok (.iconst 0, 1) := by decide +kernel
theorem dX8_copyFrom_157 : decode cX8_copyFrom 157 = .ok (.aload_n 0, 1) := by decide +kernel
theorem dX8_copyFrom_158 : decode cX8_copyFrom 158 = .ok (.getfield 38, 3) := by decide +kernel
theorem dX8_copyFrom_161 : decode cX8_copyFrom 161 = .ok (.iconst 0, 1) := by decide +kernel
theorem dX8_copyFrom_162 : decode cX8_copyFrom 162 = .ok (.bipush 100, 2) := by decide +kernel
theorem dX8_copyFrom_164 : decode cX8_copyFrom 164 = .ok (.invokestatic 62, 3) := by decide +kernel
theorem dX8_copyFrom_167 : decode cX8_copyFrom 167 = .ok (.return_, 1) := by decide +kernel
theorem dX8_save_0 : decode cX8_save 0 = .ok (.aload_n 1, 1) := by decide +kernel
theorem dX8_save_1 : decode cX8_save 1 = .ok (.aload_n 0, 1) := by decide +kernel
theorem dX8_save_2 : decode cX8_save 2 = .ok (.getfield 48, 3) := by decide +kernel
theorem dX8_save_5 : decode cX8_save 5 = .ok (.putfield 68, 3) := by decide +kernel
theorem dX8_save_8 : decode cX8_save 8 = .ok (.aload_n 1, 1) := by decide +kernel
theorem dX8_save_9 : decode cX8_save 9 = .ok (.aload_n 0, 1) := by decide +kernel
theorem dX8_save_10 : decode cX8_save 10 = .ok (.getfield 52, 3) := by decide +kernel
theorem dX8_save_13 : decode cX8_save 13 = .ok (.putfield 71, 3) := by decide +kernel
theorem dX8_save_16 : decode cX8_save 16 = .ok (.aload_n 0, 1) := by decide +kernel
theorem dX8_save_17 : decode cX8_save 17 = .ok (.getfield 9, 3) := by decide +kernel
theorem dX8_save_20 : decode cX8_save 20 = .ok (.iconst 0, 1) := by decide +kernel
theorem dX8_save_21 : decode cX8_save 21 = .ok (.aload_n 1, 1) := by decide +kernel
theorem dX8_save_22 : decode cX8_save 22 = .ok (.getfield 72, 3) := by decide +kernel
theorem dX8_save_25 : decode cX8_save 25 = .ok (.iconst 0, 1) := by decide +kernel
theorem dX8_save_26 : decode cX8_save 26 = .ok (.bipush 60, 2) := by decide +kernel
theorem dX8_save_28 : decode cX8_save 28 = .ok (.invokestatic 62, 3) := by decide +kernel
theorem dX8_save_31 : decode cX8_save 31 = .ok (.aload_n 0, 1) := by decide +kernel
theorem dX8_save_32 : decode cX8_save 32 = .ok (.getfield 15, 3) := by decide +kernel
theorem dX8_save_35 : decode cX8_save 35 = .ok (.iconst 0, 1) := by decide +kernel
theorem dX8_save_36 : decode cX8_save 36 = .ok (.aload_n 1, 1) := by decide +kernel
theorem dX8_save_37 : decode cX8_save 37 = .ok (.getfield 73, 3) := by decide +kernel
theorem dX8_save_40 : decode cX8_save 40 = .ok (.iconst 0, 1) := by decide +kernel
theorem dX8_save_41 : decode cX8_save 41 = .ok (.bipush 60, 2) := by decide +kernel
theorem dX8_save_43 : decode cX8_save 43 = .ok (.invokestatic 62, 3) := by decide +kernel
theorem dX8_save_46 : decode cX8_save 46 = .ok (.aload_n 0, 1) := by decide +kernel
theorem dX8_save_47 : decode cX8_save 47 = .ok (.getfield 31, 3) := by decide +kernel
theorem dX8_save_50 : decode cX8_save 50 = .ok (.iconst 0, 1) := by decide +kernel
theorem dX8_save_51 : decode cX8_save 51 = .ok (.aload_n 1, 1) := by decide +kernel
theorem dX8_save_52 : decode cX8_save 52 = .ok (.getfield 74, 3) := by decide +kernel
theorem dX8_save_55 : decode cX8_save 55 = .ok (.iconst 0, 1) := by decide +kernel
theorem dX8_save_56 : decode cX8_save 56 = .ok (.bipush 100, 2) := by decide +kernel
theorem dX8_save_58 : decode cX8_save 58 = .ok (.invokestatic 62, 3) := by decide +kernel
theorem dX8_save_61 : decode cX8_save 61 = .ok (.return_, 1) := by decide +kernel
theorem dX8_restore_0 : decode cX8_restore 0 = .ok (.aload_n 0, 1) := by decide +kernel
theorem dX8_restore_1 : decode cX8_restore 1 = .ok (.iconst 0, 1) := by decide +kernel
theorem dX8_restore_2 : decode cX8_restore 2 = .ok (.putfield 58, 3) := by decide +kernel
theorem dX8_restore_5 : decode cX8_restore 5 = .ok (.iconst 0, 1) := by decide +kernel
theorem dX8_restore_6 : decode cX8_restore 6 = .ok (.istore_n 2, 1) := by decide +kernel
theorem dX8_restore_7 : decode cX8_restore 7 = .ok (.iload_n 2, 1) := by decide +kernel
theorem dX8_restore_8 : decode cX8_restore 8 = .ok (.aload_n 0, 1) := by decide +kernel
theorem dX8_restore_9 : decode cX8_restore 9 = .ok (.getfield 48, 3) := by decide +kernel
theorem dX8_restore_12 : decode cX8_restore 12 = .ok (.if_icmp .ge 64, 3) := by decide +kernel
theorem dX8_restore_15 : decode cX8_restore 15 = .ok (.iload_n 2, 1) := by decide +kernel
theorem dX8_restore_16 : decode cX8_restore 16 = .ok (.aload_n 1, 1) := by decide +kernel
theorem dX8_restore_17 : decode cX8_restore 17 = .ok (.getfield 68, 3) := by decide +kernel
theorem dX8_restore_20 : decode cX8_restore 20 = .ok (.if_icmp .ge 7, 3) := by decide +kernel
theorem dX8_restore_23 : decode cX8_restore 23 = .ok (.iconst 1, 1) := by decide +kernel
theorem dX8_restore_24 : decode cX8_restore 24 = .ok (.goto 4, 3) := by decide +kernel
theorem dX8_restore_27 : decode cX8_restore 27 = .ok (.iconst 0, 1) := by decide +kernel
theorem dX8_restore_28 : decode cX8_restore 28 = .ok (.istore_n 3, 1) := by decide +kernel
theorem dX8_restore_29 : decode cX8_restore 29 = .ok (.aload_n 0, 1) := by decide +kernel
theorem dX8_restore_30 : decode cX8_restore 30 = .ok (.getfield 9, 3) := by decide +kernel
theorem dX8_restore_33 : decode cX8_restore 33 = .ok (.iload_n 2, 1) := by decide +kernel
theorem dX8_restore_34 : decode cX8_restore 34 = .ok (.iload_n 3, 1) := by decide +kernel
theorem dX8_restore_35 : decode cX8_restore 35 = .ok (.ifCond .eq 12, 3) := by decide +kernel
theorem dX8_restore_38 : decode cX8_restore 38 = .ok (.aload_n 1, 1) := by decide +kernel
theorem dX8_restore_39 : decode cX8_restore 39 = .ok (.getfield 72, 3) := by decide +kernel
theorem dX8_restore_42 : decode cX8_restore 42 = .ok (.iload_n 2, 1) := by decide +kernel
theorem dX8_restore_43 : decode cX8_restore 43 = .ok (.iaload, 1) := by decide +kernel
theorem dX8_restore_44 : decode cX8_restore 44 = .ok (.goto 4, 3) := by decide +kernel
theorem dX8_restore_47 : decode cX8_restore 47 = .ok (.iload_n 2, 1) := by decide +kernel
theorem dX8_restore_48 : decode cX8_restore 48 = .ok (.iastore, 1) := by decide +kernel
theorem dX8_restore_49 : decode cX8_restore 49 = .ok (.aload_n 0, 1) := by decide +kernel
theorem dX8_restore_50 : decode cX8_restore 50 = .ok (.getfield 15, 3) := by decide +kernel
theorem dX8_restore_53 : decode cX8_restore 53 = .ok (.iload_n 2, 1) := by decide +kernel
theorem dX8_restore_54 : decode cX8_restore 54 = .ok (.iload_n 3, 1) := by decide +kernel
theorem dX8_restore_55 : decode cX8_restore 55 = .ok (.ifCond .eq 12, 3) := by decide +kernel
theorem dX8_restore_58 : decode cX8_restore 58 = .ok (.aload_n 1, 1) := by decide +kernel
theorem dX8_restore_59 : decode cX8_restore 59 = .ok (.getfield 73, 3) := by decide +kernel
theorem dX8_restore_62 : decode cX8_restore 62 = .ok (.iload_n 2, 1) := by decide +kernel
theorem dX8_restore_63 : decode cX8_restore 63 = .ok (.iaload, 1) := by decide +kernel
theorem dX8_restore_64 : decode cX8_restore 64 = .ok (.goto 5, 3) := by decide +kernel
theorem dX8_restore_67 : decode cX8_restore 67 = .ok (.bipush 100, 2) := by decide +kernel
theorem dX8_restore_69 : decode cX8_restore 69 = .ok (.iastore, 1) := by decide +kernel
theorem dX8_restore_70 : decode cX8_restore 70 = .ok (.iinc 2 1, 3) := by decide +kernel
theorem dX8_restore_73 : decode cX8_restore 73 = .ok (.goto (-66), 3) := by decide +kernel
theorem dX8_restore_76 : decode cX8_restore 76 = .ok (.iconst 0, 1) := by decide +kernel
theorem dX8_restore_77 : decode cX8_restore 77 = .ok (.istore_n 2, 1) := by decide +kernel
theorem dX8_restore_78 : decode cX8_restore 78 = .ok (.iload_n 2, 1) := by decide +kernel
theorem dX8_restore_79 : decode cX8_restore 79 = .ok (.aload_n 0, 1) := by decide +kernel
theorem dX8_restore_80 : decode cX8_restore 80 = .ok (.getfield 52, 3) := by decide +kernel
theorem dX8_restore_83 : decode cX8_restore 83 = .ok (.if_icmp .ge 37, 3) := by decide +kernel
theorem dX8_restore_86 : decode cX8_restore 86 = .ok (.aload_n 0, 1) := by decide +kernel
theorem dX8_restore_87 : decode cX8_restore 87 = .ok (.getfield 31, 3) := by decide +kernel
theorem dX8_restore_90 : decode cX8_restore 90 = .ok (.iload_n 2, 1) := by decide +kernel
theorem dX8_restore_91 : decode cX8_restore 91 = .ok (.iload_n 2, 1) := by decide +kernel
theorem dX8_restore_92 : decode cX8_restore 92 = .ok (.aload_n 1, 1) := by decide +kernel
theorem dX8_restore_93 : decode cX8_restore 93 = .ok (.getfield 71, 3) := by decide +kernel
theorem dX8_restore_96 : decode cX8_restore 96 = .ok (.if_icmp .ge 16, 3) := by decide +kernel
theorem dX8_restore_99 : decode cX8_restore 99 = .ok (.aload_n 1, 1) := by decide +kernel
theorem dX8_restore_100 : decode cX8_restore 100 = .ok (.getfield 74, 3) := by decide +kernel
theorem dX8_restore_103 : decode cX8_restore 103 = .ok (.iload_n 2, 1) := by decide +kernel
theorem dX8_restore_104 : decode cX8_restore 104 = .ok (.baload, 1) := by decide +kernel
theorem dX8_restore_105 : decode cX8_restore 105 = .ok (.ifCond .eq 7, 3) := by decide +kernel
theorem dX8_restore_108 : decode cX8_restore 108 = .ok (.iconst 1, 1) := by decide +kernel
theorem dX8_restore_109 : decode cX8_restore 109 = .ok (.goto 4, 3) := by decide +kernel
theorem dX8_restore_112 : decode cX8_restore 112 = .ok (.iconst 0, 1) := by decide +kernel
theorem dX8_restore_113 : decode cX8_restore 113 = .ok (.bastore, 1) := by decide +kernel
theorem dX8_restore_114 : decode cX8_restore 114 = .ok (.iinc 2 1, 3) := by decide +kernel
theorem dX8_restore_117 : decode cX8_restore 117 = .ok (.goto (-39), 3) := by decide +kernel
theorem dX8_restore_120 : decode cX8_restore 120 = .ok (.return_, 1) := by decide +kernel
theorem dX8_mayAct_0 : decode cX8_mayAct 0 = .ok (.aload_n 0, 1) := by decide +kernel
theorem dX8_mayAct_1 : decode cX8_mayAct 1 = .ok (.getfield 55, 3) := by decide +kernel
theorem dX8_mayAct_4 : decode cX8_mayAct 4 = .ok (.bipush 60, 2) := by decide +kernel
theorem dX8_mayAct_6 : decode cX8_mayAct 6 = .ok (.if_icmp .lt 10, 3) := by decide +kernel
theorem dX8_mayAct_9 : decode cX8_mayAct 9 = .ok (.aload_n 0, 1) := by decide +kernel
theorem dX8_mayAct_10 : decode cX8_mayAct 10 = .ok (.iconst 1, 1) := by decide +kernel
theorem dX8_mayAct_11 : decode cX8_mayAct 11 = .ok (.putfield 58, 3) := by decide +kernel
theorem dX8_mayAct_14 : decode cX8_mayAct 14 = .ok (.iconst 0, 1) := by decide +kernel
theorem dX8_mayAct_15 : decode cX8_mayAct 15 = .ok (.ireturn, 1) := by decide +kernel
theorem dX8_mayAct_16 : decode cX8_mayAct 16 = .ok (.aload_n 0, 1) := by decide +kernel
theorem dX8_mayAct_17 : decode cX8_mayAct 17 = .ok (.dup, 1) := by decide +kernel
theorem dX8_mayAct_18 : decode cX8_mayAct 18 = .ok (.getfield 55, 3) := by decide +kernel
theorem dX8_mayAct_21 : decode cX8_mayAct 21 = .ok (.iconst 1, 1) := by decide +kernel
theorem dX8_mayAct_22 : decode cX8_mayAct 22 = .ok (.iadd, 1) := by decide +kernel
theorem dX8_mayAct_23 : decode cX8_mayAct 23 = .ok (.putfield 55, 3) := by decide +kernel
theorem dX8_mayAct_26 : decode cX8_mayAct 26 = .ok (.iconst 1, 1) := by decide +kernel
theorem dX8_mayAct_27 : decode cX8_mayAct 27 = .ok (.ireturn, 1) := by decide +kernel
theorem dX8_makeVariable_0 : decode cX8_makeVariable 0 = .ok (.aload_n 0, 1) := by decide +kernel
theorem dX8_makeVariable_1 : decode cX8_makeVariable 1 = .ok (.getfield 48, 3) := by decide +kernel
theorem dX8_makeVariable_4 : decode cX8_makeVariable 4 = .ok (.bipush 60, 2) := by decide +kernel
theorem dX8_makeVariable_6 : decode cX8_makeVariable 6 = .ok (.if_icmp .lt 10, 3) := by decide +kernel
theorem dX8_makeVariable_9 : decode cX8_makeVariable 9 = .ok (.aload_n 0, 1) := by decide +kernel
theorem dX8_makeVariable_10 : decode cX8_makeVariable 10 = .ok (.iconst 1, 1) := by decide +kernel
theorem dX8_makeVariable_11 : decode cX8_makeVariable 11 = .ok (.putfield 58, 3) := by decide +kernel
theorem dX8_makeVariable_14 : decode cX8_makeVariable 14 = .ok (.iconst (-1), 1) := by decide +kernel
theorem dX8_makeVariable_15 : decode cX8_makeVariable 15 = .ok (.ireturn, 1) := by decide +kernel
theorem dX8_makeVariable_16 : decode cX8_makeVariable 16 = .ok (.aload_n 0, 1) := by decide +kernel
theorem dX8_makeVariable_17 : decode cX8_makeVariable 17 = .ok (.getfield 9, 3) := by decide +kernel
theorem dX8_makeVariable_20 : decode cX8_makeVariable 20 = .ok (.aload_n 0, 1) := by decide +kernel
theorem dX8_makeVariable_21 : decode cX8_makeVariable 21 = .ok (.getfield 48, 3) := by decide +kernel
theorem dX8_makeVariable_24 : decode cX8_makeVariable 24 = .ok (.aload_n 0, 1) := by decide +kernel
theorem dX8_makeVariable_25 : decode cX8_makeVariable 25 = .ok (.getfield 48, 3) := by decide +kernel
theorem dX8_makeVariable_28 : decode cX8_makeVariable 28 = .ok (.iastore, 1) := by decide +kernel
theorem dX8_makeVariable_29 : decode cX8_makeVariable 29 = .ok (.aload_n 0, 1) := by decide +kernel
theorem dX8_makeVariable_30 : decode cX8_makeVariable 30 = .ok (.getfield 15, 3) := by decide +kernel
theorem dX8_makeVariable_33 : decode cX8_makeVariable 33 = .ok (.aload_n 0, 1) := by decide +kernel
theorem dX8_makeVariable_34 : decode cX8_makeVariable 34 = .ok (.getfield 48, 3) := by decide +kernel
theorem dX8_makeVariable_37 : decode cX8_makeVariable 37 = .ok (.bipush 100, 2) := by decide +kernel
theorem dX8_makeVariable_39 : decode cX8_makeVariable 39 = .ok (.iastore, 1) := by decide +kernel
theorem dX8_makeVariable_40 : decode cX8_makeVariable 40 = .ok (.aload_n 0, 1) := by decide +kernel
theorem dX8_makeVariable_41 : decode cX8_makeVariable 41 = .ok (.dup, 1) := by decide +kernel
theorem dX8_makeVariable_42 : decode cX8_makeVariable 42 = .ok (.getfield 48, 3) := by decide +kernel
theorem dX8_makeVariable_45 : decode cX8_makeVariable 45 = .ok (.iconst 1, 1) := by decide +kernel
theorem dX8_makeVariable_46 : decode cX8_makeVariable 46 = .ok (.iadd, 1) := by decide +kernel
theorem dX8_makeVariable_47 : decode cX8_makeVariable 47 = .ok (.putfield 48, 3) := by decide +kernel
theorem dX8_makeVariable_50 : decode cX8_makeVariable 50 = .ok (.aload_n 0, 1) := by decide +kernel
theorem dX8_makeVariable_51 : decode cX8_makeVariable 51 = .ok (.getfield 48, 3) := by decide +kernel
theorem dX8_makeVariable_54 : decode cX8_makeVariable 54 = .ok (.iconst 1, 1) := by decide +kernel
theorem dX8_makeVariable_55 : decode cX8_makeVariable 55 = .ok (.isub, 1) := by decide +kernel
theorem dX8_makeVariable_56 : decode cX8_makeVariable 56 = .ok (.ireturn, 1) := by decide +kernel
theorem dX8_form_0 : decode cX8_form 0 = .ok (.iload_n 1, 1) := by decide +kernel
theorem dX8_form_1 : decode cX8_form 1 = .ok (.sipush 400, 3) := by decide +kernel
theorem dX8_form_4 : decode cX8_form 4 = .ok (.isub, 1) := by decide +kernel
theorem dX8_form_5 : decode cX8_form 5 = .ok (.istore_n 2, 1) := by decide +kernel
theorem dX8_form_6 : decode cX8_form 6 = .ok (.iload_n 2, 1) := by decide +kernel
theorem dX8_form_7 : decode cX8_form 7 = .ok (.ifCond .lt 11, 3) := by decide +kernel
theorem dX8_form_10 : decode cX8_form 10 = .ok (.iload_n 2, 1) := by decide +kernel
theorem dX8_form_11 : decode cX8_form 11 = .ok (.aload_n 0, 1) := by decide +kernel
theorem dX8_form_12 : decode cX8_form 12 = .ok (.getfield 48, 3) := by decide +kernel
theorem dX8_form_15 : decode cX8_form 15 = .ok (.if_icmp .lt 5, 3) := by decide +kernel
theorem dX8_form_18 : decode cX8_form 18 = .ok (.iload_n 1, 1) := by decide +kernel
theorem dX8_form_19 : decode cX8_form 19 = .ok (.ireturn, 1) := by decide +kernel
theorem dX8_form_20 : decode cX8_form 20 = .ok (.aload_n 0, 1) := by decide +kernel
theorem dX8_form_21 : decode cX8_form 21 = .ok (.getfield 9, 3) := by decide +kernel
theorem dX8_form_24 : decode cX8_form 24 = .ok (.iload_n 2, 1) := by decide +kernel
theorem dX8_form_25 : decode cX8_form 25 = .ok (.iaload, 1) := by decide +kernel
theorem dX8_form_26 : decode cX8_form 26 = .ok (.istore_n 3, 1) := by decide +kernel
theorem dX8_form_27 : decode cX8_form 27 = .ok (.aload_n 0, 1) := by decide +kernel
theorem dX8_form_28 : decode cX8_form 28 = .ok (.getfield 15, 3) := by decide +kernel
theorem dX8_form_31 : decode cX8_form 31 = .ok (.iload_n 3, 1) := by decide +kernel
theorem dX8_form_32 : decode cX8_form 32 = .ok (.iaload, 1) := by decide +kernel
theorem dX8_form_33 : decode cX8_form 33 = .ok (.bipush 100, 2) := by decide +kernel
theorem dX8_form_35 : decode cX8_form 35 = .ok (.if_icmp .eq 12, 3) := by decide +kernel
theorem dX8_form_38 : decode cX8_form 38 = .ok (.aload_n 0, 1) := by decide +kernel
theorem dX8_form_39 : decode cX8_form 39 = .ok (.getfield 15, 3) := by decide +kernel
theorem dX8_form_42 : decode cX8_form 42 = .ok (.iload_n 3, 1) := by decide +kernel
theorem dX8_form_43 : decode cX8_form 43 = .ok (.iaload, 1) := by decide +kernel
theorem dX8_form_44 : decode cX8_form 44 = .ok (.goto 8, 3) := by decide +kernel
theorem dX8_form_47 : decode cX8_form 47 = .ok (.sipush 400, 3) := by decide +kernel
theorem dX8_form_50 : decode cX8_form 50 = .ok (.iload_n 3, 1) := by decide +kernel
theorem dX8_form_51 : decode cX8_form 51 = .ok (.iadd, 1) := by decide +kernel
theorem dX8_form_52 : decode cX8_form 52 = .ok (.ireturn, 1) := by decide +kernel
theorem dX8_rootOf_0 : decode cX8_rootOf 0 = .ok (.iload_n 1, 1) := by decide +kernel
theorem dX8_rootOf_1 : decode cX8_rootOf 1 = .ok (.sipush 400, 3) := by decide +kernel
theorem dX8_rootOf_4 : decode cX8_rootOf 4 = .ok (.isub, 1) := by decide +kernel
theorem dX8_rootOf_5 : decode cX8_rootOf 5 = .ok (.istore_n 2, 1) := by decide +kernel
theorem dX8_rootOf_6 : decode cX8_rootOf 6 = .ok (.iload_n 2, 1) := by decide +kernel
theorem dX8_rootOf_7 : decode cX8_rootOf 7 = .ok (.ifCond .lt 11, 3) := by decide +kernel
theorem dX8_rootOf_10 : decode cX8_rootOf 10 = .ok (.iload_n 2, 1) := by decide +kernel
theorem dX8_rootOf_11 : decode cX8_rootOf 11 = .ok (.aload_n 0, 1) := by decide +kernel
theorem dX8_rootOf_12 : decode cX8_rootOf 12 = .ok (.getfield 48, 3) := by decide +kernel
theorem dX8_rootOf_15 : decode cX8_rootOf 15 = .ok (.if_icmp .lt 7, 3) := by decide +kernel
theorem dX8_rootOf_18 : decode cX8_rootOf 18 = .ok (.iconst (-1), 1) := by decide +kernel
theorem dX8_rootOf_19 : decode cX8_rootOf 19 = .ok (.goto 9, 3) := by decide +kernel
theorem dX8_rootOf_22 : decode cX8_rootOf 22 = .ok (.aload_n 0, 1) := by decide +kernel
theorem dX8_rootOf_23 : decode cX8_rootOf 23 = .ok (.getfield 9, 3) := by decide +kernel
theorem dX8_rootOf_26 : decode cX8_rootOf 26 = .ok (.iload_n 2, 1) := by decide +kernel
theorem dX8_rootOf_27 : decode cX8_rootOf 27 = .ok (.iaload, 1) := by decide +kernel
theorem dX8_rootOf_28 : decode cX8_rootOf 28 = .ok (.ireturn, 1) := by decide +kernel
theorem dX8_isEntailed_0 : decode cX8_isEntailed 0 = .ok (.iload_n 1, 1) := by decide +kernel
theorem dX8_isEntailed_1 : decode cX8_isEntailed 1 = .ok (.bipush 10, 2) := by decide +kernel
theorem dX8_isEntailed_3 : decode cX8_isEntailed 3 = .ok (.if_icmp .lt 23, 3) := by decide +kernel
theorem dX8_isEntailed_6 : decode cX8_isEntailed 6 = .ok (.aload_n 0, 1) := by decide +kernel
theorem dX8_isEntailed_7 : decode cX8_isEntailed 7 = .ok (.iload_n 1, 1) := by decide +kernel
theorem dX8_isEntailed_8 : decode cX8_isEntailed 8 = .ok (.bipush 10, 2) := by decide +kernel
theorem dX8_isEntailed_10 : decode cX8_isEntailed 10 = .ok (.isub, 1) := by decide +kernel
theorem dX8_isEntailed_11 : decode cX8_isEntailed 11 = .ok (.iload_n 2, 1) := by decide +kernel
theorem dX8_isEntailed_12 : decode cX8_isEntailed 12 = .ok (.iload_n 3, 1) := by decide +kernel
theorem dX8_isEntailed_13 : decode cX8_isEntailed 13 = .ok (.invokevirtual 75, 3) := by decide +kernel
theorem dX8_isEntailed_16 : decode cX8_isEntailed 16 = .ok (.iconst (-1), 1) := by decide +kernel
theorem dX8_isEntailed_17 : decode cX8_isEntailed 17 = .ok (.if_icmp .eq 7, 3) := by decide +kernel
theorem dX8_isEntailed_20 : decode cX8_isEntailed 20 = .ok (.iconst 1, 1) := by decide +kernel
theorem dX8_isEntailed_21 : decode cX8_isEntailed 21 = .ok (.goto 4, 3) := by decide +kernel
theorem dX8_isEntailed_24 : decode cX8_isEntailed 24 = .ok (.iconst 0, 1) := by decide +kernel
theorem dX8_isEntailed_25 : decode cX8_isEntailed 25 = .ok (.ireturn, 1) := by decide +kernel
theorem dX8_isEntailed_26 : decode cX8_isEntailed 26 = .ok (.aload_n 0, 1) := by decide +kernel
theorem dX8_isEntailed_27 : decode cX8_isEntailed 27 = .ok (.iload_n 2, 1) := by decide +kernel
theorem dX8_isEntailed_28 : decode cX8_isEntailed 28 = .ok (.invokevirtual 79, 3) := by decide +kernel
theorem dX8_isEntailed_31 : decode cX8_isEntailed 31 = .ok (.istore 4, 2) := by decide +kernel
theorem dX8_isEntailed_33 : decode cX8_isEntailed 33 = .ok (.aload_n 0, 1) := by decide +kernel
theorem dX8_isEntailed_34 : decode cX8_isEntailed 34 = .ok (.iload_n 3, 1) := by decide +kernel
theorem dX8_isEntailed_35 : decode cX8_isEntailed 35 = .ok (.invokevirtual 79, 3) := by decide +kernel
theorem dX8_isEntailed_38 : decode cX8_isEntailed 38 = .ok (.istore 5, 2) := by decide +kernel
theorem dX8_isEntailed_40 : decode cX8_isEntailed 40 = .ok (.iload 4, 2) := by decide +kernel
theorem dX8_isEntailed_42 : decode cX8_isEntailed 42 = .ok (.sipush 400, 3) := by decide +kernel
theorem dX8_isEntailed_45 : decode cX8_isEntailed 45 = .ok (.if_icmp .ge 15, 3) := by decide +kernel
theorem dX8_isEntailed_48 : decode cX8_isEntailed 48 = .ok (.iload 5, 2) := by decide +kernel
theorem dX8_isEntailed_50 : decode cX8_isEntailed 50 = .ok (.sipush 400, 3) := by decide +kernel
theorem dX8_isEntailed_53 : decode cX8_isEntailed 53 = .ok (.if_icmp .ge 7, 3) := by decide +kernel
theorem dX8_isEntailed_56 : decode cX8_isEntailed 56 = .ok (.iconst 1, 1) := by decide +kernel
theorem dX8_isEntailed_57 : decode cX8_isEntailed 57 = .ok (.goto 4, 3) := by decide +kernel
theorem dX8_isEntailed_60 : decode cX8_isEntailed 60 = .ok (.iconst 0, 1) := by decide +kernel
theorem dX8_isEntailed_61 : decode cX8_isEntailed 61 = .ok (.istore 6, 2) := by decide +kernel
theorem dX8_isEntailed_63 : decode cX8_isEntailed 63 = .ok (.iload_n 1, 1) := by decide +kernel
theorem dX8_isEntailed_64 : decode cX8_isEntailed 64 = .ok (.tableswitch 77 0 2 #[28, 41, 59], 28) := by decide +kernel
theorem dX8_isEntailed_92 : decode cX8_isEntailed 92 = .ok (.iload 4, 2) := by decide +kernel
theorem dX8_isEntailed_94 : decode cX8_isEntailed 94 = .ok (.iload 5, 2) := by decide +kernel
theorem dX8_isEntailed_96 : decode cX8_isEntailed 96 = .ok (.if_icmp .ne 7, 3) := by decide +kernel
theorem dX8_isEntailed_99 : decode cX8_isEntailed 99 = .ok (.iconst 1, 1) := by decide +kernel
theorem dX8_isEntailed_100 : decode cX8_isEntailed 100 = .ok (.goto 4, 3) := by decide +kernel
theorem dX8_isEntailed_103 : decode cX8_isEntailed 103 = .ok (.iconst 0, 1) := by decide +kernel
theorem dX8_isEntailed_104 : decode cX8_isEntailed 104 = .ok (.ireturn, 1) := by decide +kernel
theorem dX8_isEntailed_105 : decode cX8_isEntailed 105 = .ok (.iload 6, 2) := by decide +kernel
theorem dX8_isEntailed_107 : decode cX8_isEntailed 107 = .ok (.ifCond .eq 14, 3) := by decide +kernel
theorem dX8_isEntailed_110 : decode cX8_isEntailed 110 = .ok (.iload 4, 2) := by decide +kernel
theorem dX8_isEntailed_112 : decode cX8_isEntailed 112 = .ok (.iload 5, 2) := by decide +kernel
theorem dX8_isEntailed_114 : decode cX8_isEntailed 114 = .ok (.if_icmp .eq 7, 3) := by decide +kernel
theorem dX8_isEntailed_117 : decode cX8_isEntailed 117 = .ok (.iconst 1, 1) := by decide +kernel
theorem dX8_isEntailed_118 : decode cX8_isEntailed 118 = .ok (.goto 4, 3) := by decide +kernel
theorem dX8_isEntailed_121 : decode cX8_isEntailed 121 = .ok (.iconst 0, 1) := by decide +kernel
theorem dX8_isEntailed_122 : decode cX8_isEntailed 122 = .ok (.ireturn, 1) := by decide +kernel
theorem dX8_isEntailed_123 : decode cX8_isEntailed 123 = .ok (.iload 6, 2) := by decide +kernel
theorem dX8_isEntailed_125 : decode cX8_isEntailed 125 = .ok (.ifCond .eq 14, 3) := by decide +kernel
theorem dX8_isEntailed_128 : decode cX8_isEntailed 128 = .ok (.iload 4, 2) := by decide +kernel
theorem dX8_isEntailed_130 : decode cX8_isEntailed 130 = .ok (.iload 5, 2) := by decide +kernel
theorem dX8_isEntailed_132 : decode cX8_isEntailed 132 = .ok (.if_icmp .ge 7, 3) := by decide +kernel
theorem dX8_isEntailed_135 : decode cX8_isEntailed 135 = .ok (.iconst 1, 1) := by decide +kernel
theorem dX8_isEntailed_136 : decode cX8_isEntailed 136 = .ok (.goto 4, 3) := by decide +kernel
theorem dX8_isEntailed_139 : decode cX8_isEntailed 139 = .ok (.iconst 0, 1) := by decide +kernel
theorem dX8_isEntailed_140 : decode cX8_isEntailed 140 = .ok (.ireturn, 1) := by decide +kernel
theorem dX8_isEntailed_141 : decode cX8_isEntailed 141 = .ok (.iload 4, 2) := by decide +kernel
theorem dX8_isEntailed_143 : decode cX8_isEntailed 143 = .ok (.sipush 400, 3) := by decide +kernel
theorem dX8_isEntailed_146 : decode cX8_isEntailed 146 = .ok (.if_icmp .ge 7, 3) := by decide +kernel
theorem dX8_isEntailed_149 : decode cX8_isEntailed 149 = .ok (.iconst 1, 1) := by decide +kernel
theorem dX8_isEntailed_150 : decode cX8_isEntailed 150 = .ok (.goto 4, 3) := by decide +kernel
theorem dX8_isEntailed_153 : decode cX8_isEntailed 153 = .ok (.iconst 0, 1) := by decide +kernel
theorem dX8_isEntailed_154 : decode cX8_isEntailed 154 = .ok (.ireturn, 1) := by decide +kernel
theorem dX8_lowest_0 : decode cX8_lowest 0 = .ok (.aload_n 0, 1) := by decide +kernel
theorem dX8_lowest_1 : decode cX8_lowest 1 = .ok (.iload_n 2, 1) := by decide +kernel
theorem dX8_lowest_2 : decode cX8_lowest 2 = .ok (.invokevirtual 79, 3) := by decide +kernel
theorem dX8_lowest_5 : decode cX8_lowest 5 = .ok (.istore 4, 2) := by decide +kernel
theorem dX8_lowest_7 : decode cX8_lowest 7 = .ok (.aload_n 0, 1) := by decide +kernel
theorem dX8_lowest_8 : decode cX8_lowest 8 = .ok (.iload_n 3, 1) := by decide +kernel
theorem dX8_lowest_9 : decode cX8_lowest 9 = .ok (.invokevirtual 79, 3) := by decide +kernel
theorem dX8_lowest_12 : decode cX8_lowest 12 = .ok (.istore 5, 2) := by decide +kernel
theorem dX8_lowest_14 : decode cX8_lowest 14 = .ok (.iconst 0, 1) := by decide +kernel
theorem dX8_lowest_15 : decode cX8_lowest 15 = .ok (.istore 6, 2) := by decide +kernel
theorem dX8_lowest_17 : decode cX8_lowest 17 = .ok (.iload 6, 2) := by decide +kernel
theorem dX8_lowest_19 : decode cX8_lowest 19 = .ok (.aload_n 0, 1) := by decide +kernel
theorem dX8_lowest_20 : decode cX8_lowest 20 = .ok (.getfield 52, 3) := by decide +kernel
theorem dX8_lowest_23 : decode cX8_lowest 23 = .ok (.if_icmp .ge 65, 3) := by decide +kernel
theorem dX8_lowest_26 : decode cX8_lowest 26 = .ok (.aload_n 0, 1) := by decide +kernel
theorem dX8_lowest_27 : decode cX8_lowest 27 = .ok (.getfield 31, 3) := by decide +kernel
theorem dX8_lowest_30 : decode cX8_lowest 30 = .ok (.iload 6, 2) := by decide +kernel
theorem dX8_lowest_32 : decode cX8_lowest 32 = .ok (.baload, 1) := by decide +kernel
theorem dX8_lowest_33 : decode cX8_lowest 33 = .ok (.ifCond .eq 49, 3) := by decide +kernel
theorem dX8_lowest_36 : decode cX8_lowest 36 = .ok (.aload_n 0, 1) := by decide +kernel
theorem dX8_lowest_37 : decode cX8_lowest 37 = .ok (.getfield 18, 3) := by decide +kernel
theorem dX8_lowest_40 : decode cX8_lowest 40 = .ok (.iload 6, 2) := by decide +kernel
theorem dX8_lowest_42 : decode cX8_lowest 42 = .ok (.iaload, 1) := by decide +kernel
theorem dX8_lowest_43 : decode cX8_lowest 43 = .ok (.iload_n 1, 1) := by decide +kernel
theorem dX8_lowest_44 : decode cX8_lowest 44 = .ok (.if_icmp .ne 38, 3) := by decide +kernel
theorem dX8_lowest_47 : decode cX8_lowest 47 = .ok (.aload_n 0, 1) := by decide +kernel
theorem dX8_lowest_48 : decode cX8_lowest 48 = .ok (.aload_n 0, 1) := by decide +kernel
theorem dX8_lowest_49 : decode cX8_lowest 49 = .ok (.getfield 21, 3) := by decide +kernel
theorem dX8_lowest_52 : decode cX8_lowest 52 = .ok (.iload 6, 2) := by decide +kernel
theorem dX8_lowest_54 : decode cX8_lowest 54 = .ok (.iaload, 1) := by decide +kernel
theorem dX8_lowest_55 : decode cX8_lowest 55 = .ok (.invokevirtual 79, 3) := by decide +kernel
theorem dX8_lowest_58 : decode cX8_lowest 58 = .ok (.iload 4, 2) := by decide +kernel
theorem dX8_lowest_60 : decode cX8_lowest 60 = .ok (.if_icmp .ne 22, 3) := by decide +kernel
theorem dX8_lowest_63 : decode cX8_lowest 63 = .ok (.aload_n 0, 1) := by decide +kernel
theorem dX8_lowest_64 : decode cX8_lowest 64 = .ok (.aload_n 0, 1) := by decide +kernel
theorem dX8_lowest_65 : decode cX8_lowest 65 = .ok (.getfield 24, 3) := by decide +kernel
theorem dX8_lowest_68 : decode cX8_lowest 68 = .ok (.iload 6, 2) := by decide +kernel
theorem dX8_lowest_70 : decode cX8_lowest 70 = .ok (.iaload, 1) := by decide +kernel
theorem dX8_lowest_71 : decode cX8_lowest 71 = .ok (.invokevirtual 79, 3) := by decide +kernel
theorem dX8_lowest_74 : decode cX8_lowest 74 = .ok (.iload 5, 2) := by decide +kernel
theorem dX8_lowest_76 : decode cX8_lowest 76 = .ok (.if_icmp .ne 6, 3) := by decide +kernel
theorem dX8_lowest_79 : decode cX8_lowest 79 = .ok (.iload 6, 2) := by decide +kernel
theorem dX8_lowest_81 : decode cX8_lowest 81 = .ok (.ireturn, 1) := by decide +kernel
theorem dX8_lowest_82 : decode cX8_lowest 82 = .ok (.iinc 6 1, 3) := by decide +kernel
theorem dX8_lowest_85 : decode cX8_lowest 85 = .ok (.goto (-68), 3) := by decide +kernel
theorem dX8_lowest_88 : decode cX8_lowest 88 = .ok (.iconst (-1), 1) := by decide +kernel
theorem dX8_lowest_89 : decode cX8_lowest 89 = .ok (.ireturn, 1) := by decide +kernel
theorem dX8_unite_0 : decode cX8_unite 0 = .ok (.aload_n 0, 1) := by decide +kernel
theorem dX8_unite_1 : decode cX8_unite 1 = .ok (.iload_n 1, 1) := by decide +kernel
theorem dX8_unite_2 : decode cX8_unite 2 = .ok (.invokevirtual 79, 3) := by decide +kernel
theorem dX8_unite_5 : decode cX8_unite 5 = .ok (.istore_n 3, 1) := by decide +kernel
theorem dX8_unite_6 : decode cX8_unite 6 = .ok (.aload_n 0, 1) := by decide +kernel
theorem dX8_unite_7 : decode cX8_unite 7 = .ok (.iload_n 2, 1) := by decide +kernel
theorem dX8_unite_8 : decode cX8_unite 8 = .ok (.invokevirtual 79, 3) := by decide +kernel
theorem dX8_unite_11 : decode cX8_unite 11 = .ok (.istore 4, 2) := by decide +kernel
theorem dX8_unite_13 : decode cX8_unite 13 = .ok (.iload_n 3, 1) := by decide +kernel
theorem dX8_unite_14 : decode cX8_unite 14 = .ok (.sipush 400, 3) := by decide +kernel
theorem dX8_unite_17 : decode cX8_unite 17 = .ok (.if_icmp .ge 24, 3) := by decide +kernel
theorem dX8_unite_20 : decode cX8_unite 20 = .ok (.iload 4, 2) := by decide +kernel
theorem dX8_unite_22 : decode cX8_unite 22 = .ok (.sipush 400, 3) := by decide +kernel
theorem dX8_unite_25 : decode cX8_unite 25 = .ok (.if_icmp .ge 16, 3) := by decide +kernel
theorem dX8_unite_28 : decode cX8_unite 28 = .ok (.iload_n 3, 1) := by decide +kernel
theorem dX8_unite_29 : decode cX8_unite 29 = .ok (.iload 4, 2) := by decide +kernel
theorem dX8_unite_31 : decode cX8_unite 31 = .ok (.if_icmp .eq 10, 3) := by decide +kernel
theorem dX8_unite_34 : decode cX8_unite 34 = .ok (.aload_n 0, 1) := by decide +kernel
theorem dX8_unite_35 : decode cX8_unite 35 = .ok (.iconst 1, 1) := by decide +kernel
theorem dX8_unite_36 : decode cX8_unite 36 = .ok (.putfield 58, 3) := by decide +kernel
theorem dX8_unite_39 : decode cX8_unite 39 = .ok (.iconst (-1), 1) := by decide +kernel
theorem dX8_unite_40 : decode cX8_unite 40 = .ok (.ireturn, 1) := by decide +kernel
theorem dX8_unite_41 : decode cX8_unite 41 = .ok (.aload_n 0, 1) := by decide +kernel
theorem dX8_unite_42 : decode cX8_unite 42 = .ok (.iload_n 1, 1) := by decide +kernel
theorem dX8_unite_43 : decode cX8_unite 43 = .ok (.invokevirtual 83, 3) := by decide +kernel
theorem dX8_unite_46 : decode cX8_unite 46 = .ok (.istore 5, 2) := by decide +kernel
theorem dX8_unite_48 : decode cX8_unite 48 = .ok (.aload_n 0, 1) := by decide +kernel
theorem dX8_unite_49 : decode cX8_unite 49 = .ok (.iload_n 2, 1) := by decide +kernel
theorem dX8_unite_50 : decode cX8_unite 50 = .ok (.invokevirtual 83, 3) := by decide +kernel
theorem dX8_unite_53 : decode cX8_unite 53 = .ok (.istore 6, 2) := by decide +kernel
theorem dX8_unite_55 : decode cX8_unite 55 = .ok (.iload 5, 2) := by decide +kernel
theorem dX8_unite_57 : decode cX8_unite 57 = .ok (.iload 6, 2) := by decide +kernel
theorem dX8_unite_59 : decode cX8_unite 59 = .ok (.if_icmp .ne 5, 3) := by decide +kernel
theorem dX8_unite_62 : decode cX8_unite 62 = .ok (.iconst (-1), 1) := by decide +kernel
theorem dX8_unite_63 : decode cX8_unite 63 = .ok (.ireturn, 1) := by decide +kernel
theorem dX8_unite_64 : decode cX8_unite 64 = .ok (.iload_n 3, 1) := by decide +kernel
theorem dX8_unite_65 : decode cX8_unite 65 = .ok (.sipush 400, 3) := by decide +kernel
theorem dX8_unite_68 : decode cX8_unite 68 = .ok (.if_icmp .ge 7, 3) := by decide +kernel
theorem dX8_unite_71 : decode cX8_unite 71 = .ok (.iload_n 3, 1) := by decide +kernel
theorem dX8_unite_72 : decode cX8_unite 72 = .ok (.goto 18, 3) := by decide +kernel
theorem dX8_unite_75 : decode cX8_unite 75 = .ok (.iload 4, 2) := by decide +kernel
theorem dX8_unite_77 : decode cX8_unite 77 = .ok (.sipush 400, 3) := by decide +kernel
theorem dX8_unite_80 : decode cX8_unite 80 = .ok (.if_icmp .ge 8, 3) := by decide +kernel
theorem dX8_unite_83 : decode cX8_unite 83 = .ok (.iload 4, 2) := by decide +kernel
theorem dX8_unite_85 : decode cX8_unite 85 = .ok (.goto 5, 3) := by decide +kernel
theorem dX8_unite_88 : decode cX8_unite 88 = .ok (.bipush 100, 2) := by decide +kernel
theorem dX8_unite_90 : decode cX8_unite 90 = .ok (.istore 7, 2) := by decide +kernel
theorem dX8_unite_92 : decode cX8_unite 92 = .ok (.iload 5, 2) := by decide +kernel
theorem dX8_unite_94 : decode cX8_unite 94 = .ok (.iconst (-1), 1) := by decide +kernel
theorem dX8_unite_95 : decode cX8_unite 95 = .ok (.if_icmp .eq 30, 3) := by decide +kernel
theorem dX8_unite_98 : decode cX8_unite 98 = .ok (.iload 6, 2) := by decide +kernel
theorem dX8_unite_100 : decode cX8_unite 100 = .ok (.iconst (-1), 1) := by decide +kernel
theorem dX8_unite_101 : decode cX8_unite 101 = .ok (.if_icmp .eq 24, 3) := by decide +kernel
theorem dX8_unite_104 : decode cX8_unite 104 = .ok (.aload_n 0, 1) := by decide +kernel
theorem dX8_unite_105 : decode cX8_unite 105 = .ok (.iload 5, 2) := by decide +kernel
theorem dX8_unite_107 : decode cX8_unite 107 = .ok (.iload 6, 2) := by decide +kernel
theorem dX8_unite_109 : decode cX8_unite 109 = .ok (.invokestatic 86, 3) := by decide +kernel
theorem dX8_unite_112 : decode cX8_unite 112 = .ok (.iload 5, 2) := by decide +kernel
theorem dX8_unite_114 : decode cX8_unite 114 = .ok (.iload 6, 2) := by decide +kernel
theorem dX8_unite_116 : decode cX8_unite 116 = .ok (.invokestatic 92, 3) := by decide +kernel
theorem dX8_unite_119 : decode cX8_unite 119 = .ok (.iload 7, 2) := by decide +kernel
theorem dX8_unite_121 : decode cX8_unite 121 = .ok (.invokevirtual 95, 3) := by decide +kernel
theorem dX8_unite_124 : decode cX8_unite 124 = .ok (.ireturn, 1) := by decide +kernel
theorem dX8_unite_125 : decode cX8_unite 125 = .ok (.iload 5, 2) := by decide +kernel
theorem dX8_unite_127 : decode cX8_unite 127 = .ok (.iload 6, 2) := by decide +kernel
theorem dX8_unite_129 : decode cX8_unite 129 = .ok (.invokestatic 92, 3) := by decide +kernel
theorem dX8_unite_132 : decode cX8_unite 132 = .ok (.istore 8, 2) := by decide +kernel
theorem dX8_unite_134 : decode cX8_unite 134 = .ok (.aload_n 0, 1) := by decide +kernel
theorem dX8_unite_135 : decode cX8_unite 135 = .ok (.getfield 15, 3) := by decide +kernel
theorem dX8_unite_138 : decode cX8_unite 138 = .ok (.iload 8, 2) := by decide +kernel
theorem dX8_unite_140 : decode cX8_unite 140 = .ok (.iaload, 1) := by decide +kernel
theorem dX8_unite_141 : decode cX8_unite 141 = .ok (.bipush 100, 2) := by decide +kernel
theorem dX8_unite_143 : decode cX8_unite 143 = .ok (.if_icmp .eq 5, 3) := by decide +kernel
theorem dX8_unite_146 : decode cX8_unite 146 = .ok (.iconst (-1), 1) := by decide +kernel
theorem dX8_unite_147 : decode cX8_unite 147 = .ok (.ireturn, 1) := by decide +kernel
theorem dX8_unite_148 : decode cX8_unite 148 = .ok (.aload_n 0, 1) := by decide +kernel
theorem dX8_unite_149 : decode cX8_unite 149 = .ok (.getfield 15, 3) := by decide +kernel
theorem dX8_unite_152 : decode cX8_unite 152 = .ok (.iload 8, 2) := by decide +kernel
theorem dX8_unite_154 : decode cX8_unite 154 = .ok (.iload 7, 2) := by decide +kernel
theorem dX8_unite_156 : decode cX8_unite 156 = .ok (.iastore, 1) := by decide +kernel
theorem dX8_unite_157 : decode cX8_unite 157 = .ok (.iload 8, 2) := by decide +kernel
theorem dX8_unite_159 : decode cX8_unite 159 = .ok (.ireturn, 1) := by decide +kernel
theorem dX8_join_0 : decode cX8_join 0 = .ok (.iconst 0, 1) := by decide +kernel
theorem dX8_join_1 : decode cX8_join 1 = .ok (.istore 4, 2) := by decide +kernel
theorem dX8_join_3 : decode cX8_join 3 = .ok (.iload 4, 2) := by decide +kernel
theorem dX8_join_5 : decode cX8_join 5 = .ok (.aload_n 0, 1) := by decide +kernel
theorem dX8_join_6 : decode cX8_join 6 = .ok (.getfield 48, 3) := by decide +kernel
theorem dX8_join_9 : decode cX8_join 9 = .ok (.if_icmp .ge 28, 3) := by decide +kernel
theorem dX8_join_12 : decode cX8_join 12 = .ok (.aload_n 0, 1) := by decide +kernel
theorem dX8_join_13 : decode cX8_join 13 = .ok (.getfield 9, 3) := by decide +kernel
theorem dX8_join_16 : decode cX8_join 16 = .ok (.iload 4, 2) := by decide +kernel
theorem dX8_join_18 : decode cX8_join 18 = .ok (.iaload, 1) := by decide +kernel
theorem dX8_join_19 : decode cX8_join 19 = .ok (.iload_n 2, 1) := by decide +kernel
theorem dX8_join_20 : decode cX8_join 20 = .ok (.if_icmp .ne 11, 3) := by decide +kernel
theorem dX8_join_23 : decode cX8_join 23 = .ok (.aload_n 0, 1) := by decide +kernel
theorem dX8_join_24 : decode cX8_join 24 = .ok (.getfield 9, 3) := by decide +kernel
theorem dX8_join_27 : decode cX8_join 27 = .ok (.iload 4, 2) := by decide +kernel
theorem dX8_join_29 : decode cX8_join 29 = .ok (.iload_n 1, 1) := by decide +kernel
theorem dX8_join_30 : decode cX8_join 30 = .ok (.iastore, 1) := by decide +kernel
theorem dX8_join_31 : decode cX8_join 31 = .ok (.iinc 4 1, 3) := by decide +kernel
theorem dX8_join_34 : decode cX8_join 34 = .ok (.goto (-31), 3) := by decide +kernel
theorem dX8_join_37 : decode cX8_join 37 = .ok (.aload_n 0, 1) := by decide +kernel
theorem dX8_join_38 : decode cX8_join 38 = .ok (.getfield 15, 3) := by decide +kernel
theorem dX8_join_41 : decode cX8_join 41 = .ok (.iload_n 1, 1) := by decide +kernel
theorem dX8_join_42 : decode cX8_join 42 = .ok (.iload_n 3, 1) := by decide +kernel
theorem dX8_join_43 : decode cX8_join 43 = .ok (.iastore, 1) := by decide +kernel
theorem dX8_join_44 : decode cX8_join 44 = .ok (.iload_n 1, 1) := by decide +kernel
theorem dX8_join_45 : decode cX8_join 45 = .ok (.ireturn, 1) := by decide +kernel
theorem dX8_isTouched_0 : decode cX8_isTouched 0 = .ok (.aload_n 0, 1) := by decide +kernel
theorem dX8_isTouched_1 : decode cX8_isTouched 1 = .ok (.getfield 31, 3) := by decide +kernel
theorem dX8_isTouched_4 : decode cX8_isTouched 4 = .ok (.iload_n 1, 1) := by decide +kernel
theorem dX8_isTouched_5 : decode cX8_isTouched 5 = .ok (.baload, 1) := by decide +kernel
theorem dX8_isTouched_6 : decode cX8_isTouched 6 = .ok (.ifCond .eq 35, 3) := by decide +kernel
theorem dX8_isTouched_9 : decode cX8_isTouched 9 = .ok (.aload_n 0, 1) := by decide +kernel
theorem dX8_isTouched_10 : decode cX8_isTouched 10 = .ok (.aload_n 0, 1) := by decide +kernel
theorem dX8_isTouched_11 : decode cX8_isTouched 11 = .ok (.getfield 21, 3) := by decide +kernel
theorem dX8_isTouched_14 : decode cX8_isTouched 14 = .ok (.iload_n 1, 1) := by decide +kernel
theorem dX8_isTouched_15 : decode cX8_isTouched 15 = .ok (.iaload, 1) := by decide +kernel
theorem dX8_isTouched_16 : decode cX8_isTouched 16 = .ok (.invokevirtual 83, 3) := by decide +kernel
theorem dX8_isTouched_19 : decode cX8_isTouched 19 = .ok (.iload_n 2, 1) := by decide +kernel
theorem dX8_isTouched_20 : decode cX8_isTouched 20 = .ok (.if_icmp .eq 17, 3) := by decide +kernel
theorem dX8_isTouched_23 : decode cX8_isTouched 23 = .ok (.aload_n 0, 1) := by decide +kernel
theorem dX8_isTouched_24 : decode cX8_isTouched 24 = .ok (.aload_n 0, 1) := by decide +kernel
theorem dX8_isTouched_25 : decode cX8_isTouched 25 = .ok (.getfield 24, 3) := by decide +kernel
theorem dX8_isTouched_28 : decode cX8_isTouched 28 = .ok (.iload_n 1, 1) := by decide +kernel
theorem dX8_isTouched_29 : decode cX8_isTouched 29 = .ok (.iaload, 1) := by decide +kernel
theorem dX8_isTouched_30 : decode cX8_isTouched 30 = .ok (.invokevirtual 83, 3) := by decide +kernel
theorem dX8_isTouched_33 : decode cX8_isTouched 33 = .ok (.iload_n 2, 1) := by decide +kernel
theorem dX8_isTouched_34 : decode cX8_isTouched 34 = .ok (.if_icmp .ne 7, 3) := by decide +kernel
theorem dX8_isTouched_37 : decode cX8_isTouched 37 = .ok (.iconst 1, 1) := by decide +kernel
theorem dX8_isTouched_38 : decode cX8_isTouched 38 = .ok (.goto 4, 3) := by decide +kernel
theorem dX8_isTouched_41 : decode cX8_isTouched 41 = .ok (.iconst 0, 1) := by decide +kernel
theorem dX8_isTouched_42 : decode cX8_isTouched 42 = .ok (.ireturn, 1) := by decide +kernel
theorem dX8_addToken_0 : decode cX8_addToken 0 = .ok (.aload_n 0, 1) := by decide +kernel
theorem dX8_addToken_1 : decode cX8_addToken 1 = .ok (.getfield 52, 3) := by decide +kernel
theorem dX8_addToken_4 : decode cX8_addToken 4 = .ok (.bipush 100, 2) := by decide +kernel
theorem dX8_addToken_6 : decode cX8_addToken 6 = .ok (.if_icmp .lt 10, 3) := by decide +kernel
theorem dX8_addToken_9 : decode cX8_addToken 9 = .ok (.aload_n 0, 1) := by decide +kernel
theorem dX8_addToken_10 : decode cX8_addToken 10 = .ok (.iconst 1, 1) := by decide +kernel
theorem dX8_addToken_11 : decode cX8_addToken 11 = .ok (.putfield 58, 3) := by decide +kernel
theorem dX8_addToken_14 : decode cX8_addToken 14 = .ok (.iconst (-1), 1) := by decide +kernel
theorem dX8_addToken_15 : decode cX8_addToken 15 = .ok (.ireturn, 1) := by decide +kernel
theorem dX8_addToken_16 : decode cX8_addToken 16 = .ok (.aload_n 0, 1) := by decide +kernel
theorem dX8_addToken_17 : decode cX8_addToken 17 = .ok (.getfield 18, 3) := by decide +kernel
theorem dX8_addToken_20 : decode cX8_addToken 20 = .ok (.aload_n 0, 1) := by decide +kernel
theorem dX8_addToken_21 : decode cX8_addToken 21 = .ok (.getfield 52, 3) := by decide +kernel
theorem dX8_addToken_24 : decode cX8_addToken 24 = .ok (.iload_n 1, 1) := by decide +kernel
theorem dX8_addToken_25 : decode cX8_addToken 25 = .ok (.iastore, 1) := by decide +kernel
theorem dX8_addToken_26 : decode cX8_addToken 26 = .ok (.aload_n 0, 1) := by decide +kernel
theorem dX8_addToken_27 : decode cX8_addToken 27 = .ok (.getfield 21, 3) := by decide +kernel
theorem dX8_addToken_30 : decode cX8_addToken 30 = .ok (.aload_n 0, 1) := by decide +kernel
theorem dX8_addToken_31 : decode cX8_addToken 31 = .ok (.getfield 52, 3) := by decide +kernel
theorem dX8_addToken_34 : decode cX8_addToken 34 = .ok (.iload_n 2, 1) := by decide +kernel
theorem dX8_addToken_35 : decode cX8_addToken 35 = .ok (.iastore, 1) := by decide +kernel
theorem dX8_addToken_36 : decode cX8_addToken 36 = .ok (.aload_n 0, 1) := by decide +kernel
theorem dX8_addToken_37 : decode cX8_addToken 37 = .ok (.getfield 24, 3) := by decide +kernel
theorem dX8_addToken_40 : decode cX8_addToken 40 = .ok (.aload_n 0, 1) := by decide +kernel
theorem dX8_addToken_41 : decode cX8_addToken 41 = .ok (.getfield 52, 3) := by decide +kernel
theorem dX8_addToken_44 : decode cX8_addToken 44 = .ok (.iload_n 3, 1) := by decide +kernel
theorem dX8_addToken_45 : decode cX8_addToken 45 = .ok (.iastore, 1) := by decide +kernel
theorem dX8_addToken_46 : decode cX8_addToken 46 = .ok (.aload_n 0, 1) := by decide +kernel
theorem dX8_addToken_47 : decode cX8_addToken 47 = .ok (.getfield 27, 3) := by decide +kernel
theorem dX8_addToken_50 : decode cX8_addToken 50 = .ok (.aload_n 0, 1) := by decide +kernel
theorem dX8_addToken_51 : decode cX8_addToken 51 = .ok (.getfield 52, 3) := by decide +kernel
theorem dX8_addToken_54 : decode cX8_addToken 54 = .ok (.iload 4, 2) := by decide +kernel
theorem dX8_addToken_56 : decode cX8_addToken 56 = .ok (.bastore, 1) := by decide +kernel
theorem dX8_addToken_57 : decode cX8_addToken 57 = .ok (.aload_n 0, 1) := by decide +kernel
theorem dX8_addToken_58 : decode cX8_addToken 58 = .ok (.getfield 31, 3) := by decide +kernel
theorem dX8_addToken_61 : decode cX8_addToken 61 = .ok (.aload_n 0, 1) := by decide +kernel
theorem dX8_addToken_62 : decode cX8_addToken 62 = .ok (.getfield 52, 3) := by decide +kernel
theorem dX8_addToken_65 : decode cX8_addToken 65 = .ok (.iconst 1, 1) := by decide +kernel
theorem dX8_addToken_66 : decode cX8_addToken 66 = .ok (.bastore, 1) := by decide +kernel
theorem dX8_addToken_67 : decode cX8_addToken 67 = .ok (.aload_n 0, 1) := by decide +kernel
theorem dX8_addToken_68 : decode cX8_addToken 68 = .ok (.getfield 34, 3) := by decide +kernel
theorem dX8_addToken_71 : decode cX8_addToken 71 = .ok (.aload_n 0, 1) := by decide +kernel
theorem dX8_addToken_72 : decode cX8_addToken 72 = .ok (.getfield 52, 3) := by decide +kernel
theorem dX8_addToken_75 : decode cX8_addToken 75 = .ok (.lload 5, 2) := by decide +kernel
theorem dX8_addToken_77 : decode cX8_addToken 77 = .ok (.lastore, 1) := by decide +kernel
theorem dX8_addToken_78 : decode cX8_addToken 78 = .ok (.aload_n 0, 1) := by decide +kernel
theorem dX8_addToken_79 : decode cX8_addToken 79 = .ok (.getfield 38, 3) := by decide +kernel
theorem dX8_addToken_82 : decode cX8_addToken 82 = .ok (.aload_n 0, 1) := by decide +kernel
theorem dX8_addToken_83 : decode cX8_addToken 83 = .ok (.getfield 52, 3) := by decide +kernel
theorem dX8_addToken_86 : decode cX8_addToken 86 = .ok (.lload 7, 2) := by decide +kernel
theorem dX8_addToken_88 : decode cX8_addToken 88 = .ok (.lastore, 1) := by decide +kernel
theorem dX8_addToken_89 : decode cX8_addToken 89 = .ok (.aload_n 0, 1) := by decide +kernel
theorem dX8_addToken_90 : decode cX8_addToken 90 = .ok (.dup, 1) := by decide +kernel
theorem dX8_addToken_91 : decode cX8_addToken 91 = .ok (.getfield 52, 3) := by decide +kernel
theorem dX8_addToken_94 : decode cX8_addToken 94 = .ok (.iconst 1, 1) := by decide +kernel
theorem dX8_addToken_95 : decode cX8_addToken 95 = .ok (.iadd, 1) := by decide +kernel
theorem dX8_addToken_96 : decode cX8_addToken 96 = .ok (.putfield 52, 3) := by decide +kernel
theorem dX8_addToken_99 : decode cX8_addToken 99 = .ok (.aload_n 0, 1) := by decide +kernel
theorem dX8_addToken_100 : decode cX8_addToken 100 = .ok (.getfield 52, 3) := by decide +kernel
theorem dX8_addToken_103 : decode cX8_addToken 103 = .ok (.iconst 1, 1) := by decide +kernel
theorem dX8_addToken_104 : decode cX8_addToken 104 = .ok (.isub, 1) := by decide +kernel
theorem dX8_addToken_105 : decode cX8_addToken 105 = .ok (.ireturn, 1) := by decide +kernel
theorem dX8_dropPassing_0 : decode cX8_dropPassing 0 = .ok (.iconst 0, 1) := by decide +kernel
theorem dX8_dropPassing_1 : decode cX8_dropPassing 1 = .ok (.istore_n 1, 1) := by decide +kernel
theorem dX8_dropPassing_2 : decode cX8_dropPassing 2 = .ok (.iload_n 1, 1) := by decide +kernel
theorem dX8_dropPassing_3 : decode cX8_dropPassing 3 = .ok (.aload_n 0, 1) := by decide +kernel
theorem dX8_dropPassing_4 : decode cX8_dropPassing 4 = .ok (.getfield 52, 3) := by decide +kernel
theorem dX8_dropPassing_7 : decode cX8_dropPassing 7 = .ok (.if_icmp .ge 38, 3) := by decide +kernel
theorem dX8_dropPassing_10 : decode cX8_dropPassing 10 = .ok (.aload_n 0, 1) := by decide +kernel
theorem dX8_dropPassing_11 : decode cX8_dropPassing 11 = .ok (.getfield 31, 3) := by decide +kernel
theorem dX8_dropPassing_14 : decode cX8_dropPassing 14 = .ok (.iload_n 1, 1) := by decide +kernel
theorem dX8_dropPassing_15 : decode cX8_dropPassing 15 = .ok (.aload_n 0, 1) := by decide +kernel
theorem dX8_dropPassing_16 : decode cX8_dropPassing 16 = .ok (.getfield 31, 3) := by decide +kernel
theorem dX8_dropPassing_19 : decode cX8_dropPassing 19 = .ok (.iload_n 1, 1) := by decide +kernel
theorem dX8_dropPassing_20 : decode cX8_dropPassing 20 = .ok (.baload, 1) := by decide +kernel
theorem dX8_dropPassing_21 : decode cX8_dropPassing 21 = .ok (.ifCond .eq 16, 3) := by decide +kernel
theorem dX8_dropPassing_24 : decode cX8_dropPassing 24 = .ok (.aload_n 0, 1) := by decide +kernel
theorem dX8_dropPassing_25 : decode cX8_dropPassing 25 = .ok (.getfield 27, 3) := by decide +kernel
theorem dX8_dropPassing_28 : decode cX8_dropPassing 28 = .ok (.iload_n 1, 1) := by decide +kernel
theorem dX8_dropPassing_29 : decode cX8_dropPassing 29 = .ok (.baload, 1) := by decide +kernel
theorem dX8_dropPassing_30 : decode cX8_dropPassing 30 = .ok (.ifCond .eq 7, 3) := by decide +kernel
theorem dX8_dropPassing_33 : decode cX8_dropPassing 33 = .ok (.iconst 1, 1) := by decide +kernel
theorem dX8_dropPassing_34 : decode cX8_dropPassing 34 = .ok (.goto 4, 3) := by decide +kernel
theorem dX8_dropPassing_37 : decode cX8_dropPassing 37 = .ok (.iconst 0, 1) := by decide +kernel
theorem dX8_dropPassing_38 : decode cX8_dropPassing 38 = .ok (.bastore, 1) := by decide +kernel
theorem dX8_dropPassing_39 : decode cX8_dropPassing 39 = .ok (.iinc 1 1, 3) := by decide +kernel
theorem dX8_dropPassing_42 : decode cX8_dropPassing 42 = .ok (.goto (-40), 3) := by decide +kernel
theorem dX8_dropPassing_45 : decode cX8_dropPassing 45 = .ok (.return_, 1) := by decide +kernel
theorem dX8_countStanding_0 : decode cX8_countStanding 0 = .ok (.iconst 0, 1) := by decide +kernel
theorem dX8_countStanding_1 : decode cX8_countStanding 1 = .ok (.istore_n 1, 1) := by decide +kernel
theorem dX8_countStanding_2 : decode cX8_countStanding 2 = .ok (.iconst 0, 1) := by decide +kernel
theorem dX8_countStanding_3 : decode cX8_countStanding 3 = .ok (.istore_n 2, 1) := by decide +kernel
theorem dX8_countStanding_4 : decode cX8_countStanding 4 = .ok (.iload_n 2, 1) := by decide +kernel
theorem dX8_countStanding_5 : decode cX8_countStanding 5 = .ok (.aload_n 0, 1) := by decide +kernel
theorem dX8_countStanding_6 : decode cX8_countStanding 6 = .ok (.getfield 52, 3) := by decide +kernel
theorem dX8_countStanding_9 : decode cX8_countStanding 9 = .ok (.if_icmp .ge 21, 3) := by decide +kernel
theorem dX8_countStanding_12 : decode cX8_countStanding 12 = .ok (.aload_n 0, 1) := by decide +kernel
theorem dX8_countStanding_13 : decode cX8_countStanding 13 = .ok (.getfield 31, 3) := by decide +kernel
theorem dX8_countStanding_16 : decode cX8_countStanding 16 = .ok (.iload_n 2, 1) := by decide +kernel
theorem dX8_countStanding_17 : decode cX8_countStanding 17 = .ok (.baload, 1) := by decide +kernel
theorem dX8_countStanding_18 : decode cX8_countStanding 18 = .ok (.ifCond .eq 6, 3) := by decide +kernel
theorem dX8_countStanding_21 : decode cX8_countStanding 21 = .ok (.iinc 1 1, 3) := by decide +kernel
theorem dX8_countStanding_24 : decode cX8_countStanding 24 = .ok (.iinc 2 1, 3) := by decide +kernel
theorem dX8_countStanding_27 : decode cX8_countStanding 27 = .ok (.goto (-23), 3) := by decide +kernel
theorem dX8_countStanding_30 : decode cX8_countStanding 30 = .ok (.iload_n 1, 1) := by decide +kernel
theorem dX8_countStanding_31 : decode cX8_countStanding 31 = .ok (.ireturn, 1) := by decide +kernel
theorem dX9_init_0 : decode cX9_init 0 = .ok (.aload_n 0, 1) := by decide +kernel
theorem dX9_init_1 : decode cX9_init 1 = .ok (.invokespecial 3, 3) := by decide +kernel
theorem dX9_init_4 : decode cX9_init 4 = .ok (.aload_n 0, 1) := by decide +kernel
theorem dX9_init_5 : decode cX9_init 5 = .ok (.bipush 61, 2) := by decide +kernel
theorem dX9_init_7 : decode cX9_init 7 = .ok (.newarray .int, 2) := by decide +kernel
theorem dX9_init_9 : decode cX9_init 9 = .ok (.putfield 9, 3) := by decide +kernel
theorem dX9_init_12 : decode cX9_init 12 = .ok (.aload_n 0, 1) := by decide +kernel
theorem dX9_init_13 : decode cX9_init 13 = .ok (.bipush 61, 2) := by decide +kernel
theorem dX9_init_15 : decode cX9_init 15 = .ok (.newarray .int, 2) := by decide +kernel
theorem dX9_init_17 : decode cX9_init 17 = .ok (.putfield 15, 3) := by decide +kernel
theorem dX9_init_20 : decode cX9_init 20 = .ok (.aload_n 0, 1) := by decide +kernel
theorem dX9_init_21 : decode cX9_init 21 = .ok (.sipush 1296, 3) := by decide +kernel
theorem dX9_init_24 : decode cX9_init 24 = .ok (.newarray .int, 2) := by decide +kernel
theorem dX9_init_26 : decode cX9_init 26 = .ok (.putfield 18, 3) := by decide +kernel
theorem dX9_init_29 : decode cX9_init 29 = .ok (.return_, 1) := by decide +kernel
theorem dX9_restart_0 : decode cX9_restart 0 = .ok (.aload_n 0, 1) := by decide +kernel
theorem dX9_restart_1 : decode cX9_restart 1 = .ok (.iconst 0, 1) := by decide +kernel
theorem dX9_restart_2 : decode cX9_restart 2 = .ok (.putfield 21, 3) := by decide +kernel
theorem dX9_restart_5 : decode cX9_restart 5 = .ok (.aload_n 0, 1) := by decide +kernel
theorem dX9_restart_6 : decode cX9_restart 6 = .ok (.iconst 0, 1) := by decide +kernel
theorem dX9_restart_7 : decode cX9_restart 7 = .ok (.putfield 25, 3) := by decide +kernel
theorem dX9_restart_10 : decode cX9_restart 10 = .ok (.aload_n 0, 1) := by decide +kernel
theorem dX9_restart_11 : decode cX9_restart 11 = .ok (.iconst 0, 1) := by decide +kernel
theorem dX9_restart_12 : decode cX9_restart 12 = .ok (.putfield 28, 3) := by decide +kernel
theorem dX9_restart_15 : decode cX9_restart 15 = .ok (.return_, 1) := by decide +kernel
theorem dX9_choose_0 : decode cX9_choose 0 = .ok (.iload_n 1, 1) := by decide +kernel
theorem dX9_choose_1 : decode cX9_choose 1 = .ok (.iconst 2, 1) := by decide +kernel
theorem dX9_choose_2 : decode cX9_choose 2 = .ok (.if_icmp .lt 15, 3) := by decide +kernel
theorem dX9_choose_5 : decode cX9_choose 5 = .ok (.aload_n 0, 1) := by decide +kernel
theorem dX9_choose_6 : decode cX9_choose 6 = .ok (.getfield 25, 3) := by decide +kernel
theorem dX9_choose_9 : decode cX9_choose 9 = .ok (.aload_n 0, 1) := by decide +kernel
theorem dX9_choose_10 : decode cX9_choose 10 = .ok (.getfield 9, 3) := by decide +kernel
theorem dX9_choose_13 : decode cX9_choose 13 = .ok (.arraylength, 1) := by decide +kernel
theorem dX9_choose_14 : decode cX9_choose 14 = .ok (.if_icmp .lt 5, 3) := by decide +kernel
theorem dX9_choose_17 : decode cX9_choose 17 = .ok (.iconst 0, 1) := by decide +kernel
theorem dX9_choose_18 : decode cX9_choose 18 = .ok (.ireturn, 1) := by decide +kernel
theorem dX9_choose_19 : decode cX9_choose 19 = .ok (.aload_n 0, 1) := by decide +kernel
theorem dX9_choose_20 : decode cX9_choose 20 = .ok (.getfield 25, 3) := by decide +kernel
theorem dX9_choose_23 : decode cX9_choose 23 = .ok (.istore_n 2, 1) := by decide +kernel
theorem dX9_choose_24 : decode cX9_choose 24 = .ok (.aload_n 0, 1) := by decide +kernel
theorem dX9_choose_25 : decode cX9_choose 25 = .ok (.dup, 1) := by decide +kernel
theorem dX9_choose_26 : decode cX9_choose 26 = .ok (.getfield 25, 3) := by decide +kernel
theorem dX9_choose_29 : decode cX9_choose 29 = .ok (.iconst 1, 1) := by decide +kernel
theorem dX9_choose_30 : decode cX9_choose 30 = .ok (.iadd, 1) := by decide +kernel
theorem dX9_choose_31 : decode cX9_choose 31 = .ok (.putfield 25, 3) := by decide +kernel
theorem dX9_choose_34 : decode cX9_choose 34 = .ok (.iload_n 2, 1) := by decide +kernel
theorem dX9_choose_35 : decode cX9_choose 35 = .ok (.aload_n 0, 1) := by decide +kernel
theorem dX9_choose_36 : decode cX9_choose 36 = .ok (.getfield 21, 3) := by decide +kernel
theorem dX9_choose_39 : decode cX9_choose 39 = .ok (.if_icmp .lt 10, 3) := by decide +kernel
theorem dX9_choose_42 : decode cX9_choose 42 = .ok (.aload_n 0, 1) := by decide +kernel
theorem dX9_choose_43 : decode cX9_choose 43 = .ok (.getfield 9, 3) := by decide +kernel
theorem dX9_choose_46 : decode cX9_choose 46 = .ok (.iload_n 2, 1) := by decide +kernel
theorem dX9_choose_47 : decode cX9_choose 47 = .ok (.iconst 0, 1) := by decide +kernel
theorem dX9_choose_48 : decode cX9_choose 48 = .ok (.iastore, 1) := by decide +kernel
theorem dX9_choose_49 : decode cX9_choose 49 = .ok (.aload_n 0, 1) := by decide +kernel
theorem dX9_choose_50 : decode cX9_choose 50 = .ok (.getfield 15, 3) := by decide +kernel
theorem dX9_choose_53 : decode cX9_choose 53 = .ok (.iload_n 2, 1) := by decide +kernel
theorem dX9_choose_54 : decode cX9_choose 54 = .ok (.iload_n 1, 1) := by decide +kernel
theorem dX9_choose_55 : decode cX9_choose 55 = .ok (.iastore, 1) := by decide +kernel
theorem dX9_choose_56 : decode cX9_choose 56 = .ok (.aload_n 0, 1) := by decide +kernel
theorem dX9_choose_57 : decode cX9_choose 57 = .ok (.getfield 9, 3) := by decide +kernel
theorem dX9_choose_60 : decode cX9_choose 60 = .ok (.iload_n 2, 1) := by decide +kernel
theorem dX9_choose_61 : decode cX9_choose 61 = .ok (.iaload, 1) := by decide +kernel
theorem dX9_choose_62 : decode cX9_choose 62 = .ok (.ireturn, 1) := by decide +kernel
theorem dX9_turn_0 : decode cX9_turn 0 = .ok (.aload_n 0, 1) := by decide +kernel
theorem dX9_turn_1 : decode cX9_turn 1 = .ok (.getfield 25, 3) := by decide +kernel
theorem dX9_turn_4 : decode cX9_turn 4 = .ok (.iconst 1, 1) := by decide +kernel
theorem dX9_turn_5 : decode cX9_turn 5 = .ok (.isub, 1) := by decide +kernel
theorem dX9_turn_6 : decode cX9_turn 6 = .ok (.istore_n 1, 1) := by decide +kernel
theorem dX9_turn_7 : decode cX9_turn 7 = .ok (.iload_n 1, 1) := by decide +kernel
theorem dX9_turn_8 : decode cX9_turn 8 = .ok (.ifCond .lt 50, 3) := by decide +kernel
theorem dX9_turn_11 : decode cX9_turn 11 = .ok (.aload_n 0, 1) := by decide +kernel
theorem dX9_turn_12 : decode cX9_turn 12 = .ok (.getfield 9, 3) := by decide +kernel
theorem dX9_turn_15 : decode cX9_turn 15 = .ok (.iload_n 1, 1) := by decide +kernel
theorem dX9_turn_16 : decode cX9_turn 16 = .ok (.iaload, 1) := by decide +kernel
theorem dX9_turn_17 : decode cX9_turn 17 = .ok (.iconst 1, 1) := by decide +kernel
theorem dX9_turn_18 : decode cX9_turn 18 = .ok (.iadd, 1) := by decide +kernel
theorem dX9_turn_19 : decode cX9_turn 19 = .ok (.aload_n 0, 1) := by decide +kernel
theorem dX9_turn_20 : decode cX9_turn 20 = .ok (.getfield 15, 3) := by decide +kernel
theorem dX9_turn_23 : decode cX9_turn 23 = .ok (.iload_n 1, 1) := by decide +kernel
theorem dX9_turn_24 : decode cX9_turn 24 = .ok (.iaload, 1) := by decide +kernel
theorem dX9_turn_25 : decode cX9_turn 25 = .ok (.if_icmp .ge 27, 3) := by decide +kernel
theorem dX9_turn_28 : decode cX9_turn 28 = .ok (.aload_n 0, 1) := by decide +kernel
theorem dX9_turn_29 : decode cX9_turn 29 = .ok (.getfield 9, 3) := by decide +kernel
theorem dX9_turn_32 : decode cX9_turn 32 = .ok (.iload_n 1, 1) := by decide +kernel
theorem dX9_turn_33 : decode cX9_turn 33 = .ok (.dup2, 1) := by decide +kernel
theorem dX9_turn_34 : decode cX9_turn 34 = .ok (.iaload, 1) := by decide +kernel
theorem dX9_turn_35 : decode cX9_turn 35 = .ok (.iconst 1, 1) := by decide +kernel
theorem dX9_turn_36 : decode cX9_turn 36 = .ok (.iadd, 1) := by decide +kernel
theorem dX9_turn_37 : decode cX9_turn 37 = .ok (.iastore, 1) := by decide +kernel
theorem dX9_turn_38 : decode cX9_turn 38 = .ok (.aload_n 0, 1) := by decide +kernel
theorem dX9_turn_39 : decode cX9_turn 39 = .ok (.iload_n 1, 1) := by decide +kernel
theorem dX9_turn_40 : decode cX9_turn 40 = .ok (.iconst 1, 1) := by decide +kernel
theorem dX9_turn_41 : decode cX9_turn 41 = .ok (.iadd, 1) := by decide +kernel
theorem dX9_turn_42 : decode cX9_turn 42 = .ok (.putfield 21, 3) := by decide +kernel
theorem dX9_turn_45 : decode cX9_turn 45 = .ok (.aload_n 0, 1) := by decide +kernel
theorem dX9_turn_46 : decode cX9_turn 46 = .ok (.iconst 0, 1) := by decide +kernel
theorem dX9_turn_47 : decode cX9_turn 47 = .ok (.putfield 25, 3) := by decide +kernel
theorem dX9_turn_50 : decode cX9_turn 50 = .ok (.iconst 1, 1) := by decide +kernel
theorem dX9_turn_51 : decode cX9_turn 51 = .ok (.ireturn, 1) := by decide +kernel
theorem dX9_turn_52 : decode cX9_turn 52 = .ok (.iinc 1 (-1), 3) := by decide +kernel
theorem dX9_turn_55 : decode cX9_turn 55 = .ok (.goto (-48), 3) := by decide +kernel
theorem dX9_turn_58 : decode cX9_turn 58 = .ok (.iconst 0, 1) := by decide +kernel
theorem dX9_turn_59 : decode cX9_turn 59 = .ok (.ireturn, 1) := by decide +kernel
theorem dX9_record_0 : decode cX9_record 0 = .ok (.aload_n 0, 1) := by decide +kernel
theorem dX9_record_1 : decode cX9_record 1 = .ok (.getfield 28, 3) := by decide +kernel
theorem dX9_record_4 : decode cX9_record 4 = .ok (.bipush 8, 2) := by decide +kernel
theorem dX9_record_6 : decode cX9_record 6 = .ok (.if_icmp .lt 4, 3) := by decide +kernel
theorem dX9_record_9 : decode cX9_record 9 = .ok (.return_, 1) := by decide +kernel
theorem dX9_record_10 : decode cX9_record 10 = .ok (.aload_n 0, 1) := by decide +kernel
theorem dX9_record_11 : decode cX9_record 11 = .ok (.getfield 28, 3) := by decide +kernel
theorem dX9_record_14 : decode cX9_record 14 = .ok (.sipush 162, 3) := by decide +kernel
theorem dX9_record_17 : decode cX9_record 17 = .ok (.imul, 1) := by decide +kernel
theorem dX9_record_18 : decode cX9_record 18 = .ok (.istore_n 3, 1) := by decide +kernel
theorem dX9_record_19 : decode cX9_record 19 = .ok (.aload_n 0, 1) := by decide +kernel
theorem dX9_record_20 : decode cX9_record 20 = .ok (.getfield 18, 3) := by decide +kernel
theorem dX9_record_23 : decode cX9_record 23 = .ok (.iload_n 3, 1) := by decide +kernel
theorem dX9_record_24 : decode cX9_record 24 = .ok (.iload_n 3, 1) := by decide +kernel
theorem dX9_record_25 : decode cX9_record 25 = .ok (.sipush 162, 3) := by decide +kernel
theorem dX9_record_28 : decode cX9_record 28 = .ok (.iadd, 1) := by decide +kernel
theorem dX9_record_29 : decode cX9_record 29 = .ok (.iconst 0, 1) := by decide +kernel
theorem dX9_record_30 : decode cX9_record 30 = .ok (.invokestatic 31, 3) := by decide +kernel
theorem dX9_record_33 : decode cX9_record 33 = .ok (.aload_n 0, 1) := by decide +kernel
theorem dX9_record_34 : decode cX9_record 34 = .ok (.getfield 18, 3) := by decide +kernel
theorem dX9_record_37 : decode cX9_record 37 = .ok (.iload_n 3, 1) := by decide +kernel
theorem dX9_record_38 : decode cX9_record 38 = .ok (.aload_n 1, 1) := by decide +kernel
theorem dX9_record_39 : decode cX9_record 39 = .ok (.getfield 37, 3) := by decide +kernel
theorem dX9_record_42 : decode cX9_record 42 = .ok (.ifCond .eq 7, 3) := by decide +kernel
theorem dX9_record_45 : decode cX9_record 45 = .ok (.iconst 1, 1) := by decide +kernel
theorem dX9_record_46 : decode cX9_record 46 = .ok (.goto 4, 3) := by decide +kernel
theorem dX9_record_49 : decode cX9_record 49 = .ok (.iconst 0, 1) := by decide +kernel
theorem dX9_record_50 : decode cX9_record 50 = .ok (.iastore, 1) := by decide +kernel
theorem dX9_record_51 : decode cX9_record 51 = .ok (.aload_n 0, 1) := by decide +kernel
theorem dX9_record_52 : decode cX9_record 52 = .ok (.getfield 18, 3) := by decide +kernel
theorem dX9_record_55 : decode cX9_record 55 = .ok (.iload_n 3, 1) := by decide +kernel
theorem dX9_record_56 : decode cX9_record 56 = .ok (.iconst 1, 1) := by decide +kernel
theorem dX9_record_57 : decode cX9_record 57 = .ok (.iadd, 1) := by decide +kernel
theorem dX9_record_58 : decode cX9_record 58 = .ok (.aload_n 1, 1) := by decide +kernel
theorem dX9_record_59 : decode cX9_record 59 = .ok (.invokevirtual 43, 3) := by decide +kernel
theorem dX9_record_62 : decode cX9_record 62 = .ok (.iastore, 1) := by decide +kernel
theorem dX9_record_63 : decode cX9_record 63 = .ok (.iconst 0, 1) := by decide +kernel
theorem dX9_record_64 : decode cX9_record 64 = .ok (.istore 4, 2) := by decide +kernel
theorem dX9_record_66 : decode cX9_record 66 = .ok (.iload 4, 2) := by decide +kernel
theorem dX9_record_68 : decode cX9_record 68 = .ok (.iload_n 2, 1) := by decide +kernel
theorem dX9_record_69 : decode cX9_record 69 = .ok (.if_icmp .ge 54, 3) := by decide +kernel
theorem dX9_record_72 : decode cX9_record 72 = .ok (.iload 4, 2) := by decide +kernel
theorem dX9_record_74 : decode cX9_record 74 = .ok (.bipush 60, 2) := by decide +kernel
theorem dX9_record_76 : decode cX9_record 76 = .ok (.if_icmp .ge 47, 3) := by decide +kernel
theorem dX9_record_79 : decode cX9_record 79 = .ok (.aload_n 1, 1) := by decide +kernel
theorem dX9_record_80 : decode cX9_record 80 = .ok (.sipush 400, 3) := by decide +kernel
theorem dX9_record_83 : decode cX9_record 83 = .ok (.iload 4, 2) := by decide +kernel
theorem dX9_record_85 : decode cX9_record 85 = .ok (.iadd, 1) := by decide +kernel
theorem dX9_record_86 : decode cX9_record 86 = .ok (.invokevirtual 47, 3) := by decide +kernel
theorem dX9_record_89 : decode cX9_record 89 = .ok (.istore 5, 2) := by decide +kernel
theorem dX9_record_91 : decode cX9_record 91 = .ok (.aload_n 0, 1) := by decide +kernel
theorem dX9_record_92 : decode cX9_record 92 = .ok (.getfield 18, 3) := by decide +kernel
theorem dX9_record_95 : decode cX9_record 95 = .ok (.iload_n 3, 1) := by decide +kernel
theorem dX9_record_96 : decode cX9_record 96 = .ok (.iconst 2, 1) := by decide +kernel
theorem dX9_record_97 : decode cX9_record 97 = .ok (.iadd, 1) := by decide +kernel
theorem dX9_record_98 : decode cX9_record 98 = .ok (.iload 4, 2) := by decide +kernel
theorem dX9_record_100 : decode cX9_record 100 = .ok (.iadd, 1) := by decide +kernel
theorem dX9_record_101 : decode cX9_record 101 = .ok (.iload 5, 2) := by decide +kernel
theorem dX9_record_103 : decode cX9_record 103 = .ok (.sipush 400, 3) := by decide +kernel
theorem dX9_record_106 : decode cX9_record 106 = .ok (.if_icmp .ge 8, 3) := by decide +kernel
theorem dX9_record_109 : decode cX9_record 109 = .ok (.iload 5, 2) := by decide +kernel
theorem dX9_record_111 : decode cX9_record 111 = .ok (.goto 5, 3) := by decide +kernel
theorem dX9_record_114 : decode cX9_record 114 = .ok (.bipush 100, 2) := by decide +kernel
theorem dX9_record_116 : decode cX9_record 116 = .ok (.iastore, 1) := by decide +kernel
theorem dX9_record_117 : decode cX9_record 117 = .ok (.iinc 4 1, 3) := by decide +kernel
theorem dX9_record_120 : decode cX9_record 120 = .ok (.goto (-54), 3) := by decide +kernel
theorem dX9_record_123 : decode cX9_record 123 = .ok (.aload_n 0, 1) := by decide +kernel
theorem dX9_record_124 : decode cX9_record 124 = .ok (.aload_n 1, 1) := by decide +kernel
theorem dX9_record_125 : decode cX9_record 125 = .ok (.iload_n 3, 1) := by decide +kernel
theorem dX9_record_126 : decode cX9_record 126 = .ok (.iconst 2, 1) := by decide +kernel
theorem dX9_record_127 : decode cX9_record 127 = .ok (.iadd, 1) := by decide +kernel
theorem dX9_record_128 : decode cX9_record 128 = .ok (.bipush 60, 2) := by decide +kernel
theorem dX9_record_130 : decode cX9_record 130 = .ok (.iadd, 1) := by decide +kernel
theorem dX9_record_131 : decode cX9_record 131 = .ok (.invokevirtual 51, 3) := by decide +kernel
theorem dX9_record_134 : decode cX9_record 134 = .ok (.iconst 0, 1) := by decide +kernel
theorem dX9_record_135 : decode cX9_record 135 = .ok (.istore 4, 2) := by decide +kernel
theorem dX9_record_137 : decode cX9_record 137 = .ok (.iload 4, 2) := by decide +kernel
theorem dX9_record_139 : decode cX9_record 139 = .ok (.aload_n 0, 1) := by decide +kernel
theorem dX9_record_140 : decode cX9_record 140 = .ok (.getfield 28, 3) := by decide +kernel
theorem dX9_record_143 : decode cX9_record 143 = .ok (.if_icmp .ge 24, 3) := by decide +kernel
theorem dX9_record_146 : decode cX9_record 146 = .ok (.aload_n 0, 1) := by decide +kernel
theorem dX9_record_147 : decode cX9_record 147 = .ok (.iload 4, 2) := by decide +kernel
theorem dX9_record_149 : decode cX9_record 149 = .ok (.sipush 162, 3) := by decide +kernel
theorem dX9_record_152 : decode cX9_record 152 = .ok (.imul, 1) := by decide +kernel
theorem dX9_record_153 : decode cX9_record 153 = .ok (.iload_n 3, 1) := by decide +kernel
theorem dX9_record_154 : decode cX9_record 154 = .ok (.invokevirtual 55, 3) := by decide +kernel
theorem dX9_record_157 : decode cX9_record 157 = .ok (.ifCond .eq 4, 3) := by decide +kernel
theorem dX9_record_160 : decode cX9_record 160 = .ok (.return_, 1) := by decide +kernel
theorem dX9_record_161 : decode cX9_record 161 = .ok (.iinc 4 1, 3) := by decide +kernel
theorem dX9_record_164 : decode cX9_record 164 = .ok (.goto (-27), 3) := by decide +kernel
theorem dX9_record_167 : decode cX9_record 167 = .ok (.aload_n 0, 1) := by decide +kernel
theorem dX9_record_168 : decode cX9_record 168 = .ok (.dup, 1) := by decide +kernel
theorem dX9_record_169 : decode cX9_record 169 = .ok (.getfield 28, 3) := by decide +kernel
theorem dX9_record_172 : decode cX9_record 172 = .ok (.iconst 1, 1) := by decide +kernel
theorem dX9_record_173 : decode cX9_record 173 = .ok (.iadd, 1) := by decide +kernel
theorem dX9_record_174 : decode cX9_record 174 = .ok (.putfield 28, 3) := by decide +kernel
theorem dX9_record_177 : decode cX9_record 177 = .ok (.return_, 1) := by decide +kernel
theorem dX9_recordTokens_0 : decode cX9_recordTokens 0 = .ok (.iload_n 2, 1) := by decide +kernel
theorem dX9_recordTokens_1 : decode cX9_recordTokens 1 = .ok (.istore_n 3, 1) := by decide +kernel
theorem dX9_recordTokens_2 : decode cX9_recordTokens 2 = .ok (.iconst 0, 1) := by decide +kernel
theorem dX9_recordTokens_3 : decode cX9_recordTokens 3 = .ok (.istore 4, 2) := by decide +kernel
theorem dX9_recordTokens_5 : decode cX9_recordTokens 5 = .ok (.iload 4, 2) := by decide +kernel
theorem dX9_recordTokens_7 : decode cX9_recordTokens 7 = .ok (.aload_n 1, 1) := by decide +kernel
theorem dX9_recordTokens_8 : decode cX9_recordTokens 8 = .ok (.getfield 59, 3) := by decide +kernel
theorem dX9_recordTokens_11 : decode cX9_recordTokens 11 = .ok (.if_icmp .ge 150, 3) := by decide +kernel
theorem dX9_recordTokens_14 : decode cX9_recordTokens 14 = .ok (.aload_n 1, 1) := by decide +kernel
theorem dX9_recordTokens_15 : decode cX9_recordTokens 15 = .ok (.getfield 62, 3) := by decide +kernel
theorem dX9_recordTokens_18 : decode cX9_recordTokens 18 = .ok (.iload 4, 2) := by decide +kernel
theorem dX9_recordTokens_20 : decode cX9_recordTokens 20 = .ok (.baload, 1) := by decide +kernel
theorem dX9_recordTokens_21 : decode cX9_recordTokens 21 = .ok (.ifCond .ne 6, 3) := by decide +kernel
theorem dX9_recordTokens_24 : decode cX9_recordTokens 24 = .ok (.goto 131, 3) := by decide +kernel
theorem dX9_recordTokens_27 : decode cX9_recordTokens 27 = .ok (.iconst 2, 1) := by decide +kernel
theorem dX9_recordTokens_28 : decode cX9_recordTokens 28 = .ok (.aload_n 1, 1) := by decide +kernel
theorem dX9_recordTokens_29 : decode cX9_recordTokens 29 = .ok (.getfield 66, 3) := by decide +kernel
theorem dX9_recordTokens_32 : decode cX9_recordTokens 32 = .ok (.iload 4, 2) := by decide +kernel
theorem dX9_recordTokens_34 : decode cX9_recordTokens 34 = .ok (.iaload, 1) := by decide +kernel
theorem dX9_recordTokens_35 : decode cX9_recordTokens 35 = .ok (.imul, 1) := by decide +kernel
theorem dX9_recordTokens_36 : decode cX9_recordTokens 36 = .ok (.aload_n 1, 1) := by decide +kernel
theorem dX9_recordTokens_37 : decode cX9_recordTokens 37 = .ok (.getfield 69, 3) := by decide +kernel
theorem dX9_recordTokens_40 : decode cX9_recordTokens 40 = .ok (.iload 4, 2) := by decide +kernel
theorem dX9_recordTokens_42 : decode cX9_recordTokens 42 = .ok (.baload, 1) := by decide +kernel
theorem dX9_recordTokens_43 : decode cX9_recordTokens 43 = .ok (.ifCond .eq 7, 3) := by decide +kernel
theorem dX9_recordTokens_46 : decode cX9_recordTokens 46 = .ok (.iconst 1, 1) := by decide +kernel
theorem dX9_recordTokens_47 : decode cX9_recordTokens 47 = .ok (.goto 4, 3) := by decide +kernel
theorem dX9_recordTokens_50 : decode cX9_recordTokens 50 = .ok (.iconst 0, 1) := by decide +kernel
theorem dX9_recordTokens_51 : decode cX9_recordTokens 51 = .ok (.iadd, 1) := by decide +kernel
theorem dX9_recordTokens_52 : decode cX9_recordTokens 52 = .ok (.istore 5, 2) := by decide +kernel
theorem dX9_recordTokens_54 : decode cX9_recordTokens 54 = .ok (.iload 5, 2) := by decide +kernel
theorem dX9_recordTokens_56 : decode cX9_recordTokens 56 = .ok (.bipush 10, 2) := by decide +kernel
theorem dX9_recordTokens_58 : decode cX9_recordTokens 58 = .ok (.ishl, 1) := by decide +kernel
theorem dX9_recordTokens_59 : decode cX9_recordTokens 59 = .ok (.aload_n 1, 1) := by decide +kernel
theorem dX9_recordTokens_60 : decode cX9_recordTokens 60 = .ok (.aload_n 1, 1) := by decide +kernel
theorem dX9_recordTokens_61 : decode cX9_recordTokens 61 = .ok (.getfield 72, 3) := by decide +kernel
theorem dX9_recordTokens_64 : decode cX9_recordTokens 64 = .ok (.iload 4, 2) := by decide +kernel
theorem dX9_recordTokens_66 : decode cX9_recordTokens 66 = .ok (.iaload, 1) := by decide +kernel
theorem dX9_recordTokens_67 : decode cX9_recordTokens 67 = .ok (.invokevirtual 47, 3) := by decide +kernel
theorem dX9_recordTokens_70 : decode cX9_recordTokens 70 = .ok (.iadd, 1) := by decide +kernel
theorem dX9_recordTokens_71 : decode cX9_recordTokens 71 = .ok (.bipush 99, 2) := by decide +kernel
theorem dX9_recordTokens_73 : decode cX9_recordTokens 73 = .ok (.iadd, 1) := by decide +kernel
theorem dX9_recordTokens_74 : decode cX9_recordTokens 74 = .ok (.istore 5, 2) := by decide +kernel
theorem dX9_recordTokens_76 : decode cX9_recordTokens 76 = .ok (.iload 5, 2) := by decide +kernel
theorem dX9_recordTokens_78 : decode cX9_recordTokens 78 = .ok (.bipush 10, 2) := by decide +kernel
theorem dX9_recordTokens_80 : decode cX9_recordTokens 80 = .ok (.ishl, 1) := by decide +kernel
theorem dX9_recordTokens_81 : decode cX9_recordTokens 81 = .ok (.aload_n 1, 1) := by decide +kernel
theorem dX9_recordTokens_82 : decode cX9_recordTokens 82 = .ok (.aload_n 1, 1) := by decide +kernel
theorem dX9_recordTokens_83 : decode cX9_recordTokens 83 = .ok (.getfield 75, 3) := by decide +kernel
theorem dX9_recordTokens_86 : decode cX9_recordTokens 86 = .ok (.iload 4, 2) := by decide +kernel
theorem dX9_recordTokens_88 : decode cX9_recordTokens 88 = .ok (.iaload, 1) := by decide +kernel
theorem dX9_recordTokens_89 : decode cX9_recordTokens 89 = .ok (.invokevirtual 47, 3) := by decide +kernel
theorem dX9_recordTokens_92 : decode cX9_recordTokens 92 = .ok (.iadd, 1) := by decide +kernel
theorem dX9_recordTokens_93 : decode cX9_recordTokens 93 = .ok (.bipush 99, 2) := by decide +kernel
theorem dX9_recordTokens_95 : decode cX9_recordTokens 95 = .ok (.iadd, 1) := by decide +kernel
theorem dX9_recordTokens_96 : decode cX9_recordTokens 96 = .ok (.istore 5, 2) := by decide +kernel
theorem dX9_recordTokens_98 : decode cX9_recordTokens 98 = .ok (.iload_n 3, 1) := by decide +kernel
theorem dX9_recordTokens_99 : decode cX9_recordTokens 99 = .ok (.istore 6, 2) := by decide +kernel
theorem dX9_recordTokens_101 : decode cX9_recordTokens 101 = .ok (.iload 6, 2) := by decide +kernel
theorem dX9_recordTokens_103 : decode cX9_recordTokens 103 = .ok (.iload_n 2, 1) := by decide +kernel
theorem dX9_recordTokens_104 : decode cX9_recordTokens 104 = .ok (.if_icmp .le 39, 3) := by decide +kernel
theorem dX9_recordTokens_107 : decode cX9_recordTokens 107 = .ok (.aload_n 0, 1) := by decide +kernel
theorem dX9_recordTokens_108 : decode cX9_recordTokens 108 = .ok (.getfield 18, 3) := by decide +kernel
theorem dX9_recordTokens_111 : decode cX9_recordTokens 111 = .ok (.iload 6, 2) := by decide +kernel
theorem dX9_recordTokens_113 : decode cX9_recordTokens 113 = .ok (.iconst 1, 1) := by decide +kernel
theorem dX9_recordTokens_114 : decode cX9_recordTokens 114 = .ok (.isub, 1) := by decide +kernel
theorem dX9_recordTokens_115 : decode cX9_recordTokens 115 = .ok (.iaload, 1) := by decide +kernel
theorem dX9_recordTokens_116 : decode cX9_recordTokens 116 = .ok (.iload 5, 2) := by decide +kernel
theorem dX9_recordTokens_118 : decode cX9_recordTokens 118 = .ok (.if_icmp .le 25, 3) := by decide +kernel
theorem dX9_recordTokens_121 : decode cX9_recordTokens 121 = .ok (.aload_n 0, 1) := by decide +kernel
theorem dX9_recordTokens_122 : decode cX9_recordTokens 122 = .ok (.getfield 18, 3) := by decide +kernel
theorem dX9_recordTokens_125 : decode cX9_recordTokens 125 = .ok (.iload 6, 2) := by decide +kernel
theorem dX9_recordTokens_127 : decode cX9_recordTokens 127 = .ok (.aload_n 0, 1) := by decide +kernel
theorem dX9_recordTokens_128 : decode cX9_recordTokens 128 = .ok (.getfield 18, 3) := by decide +kernel
theorem dX9_recordTokens_131 : decode cX9_recordTokens 131 = .ok (.iload 6, 2) := by decide +kernel
theorem dX9_recordTokens_133 : decode cX9_recordTokens 133 = .ok (.iconst 1, 1) := by decide +kernel
theorem dX9_recordTokens_134 : decode cX9_recordTokens 134 = .ok (.isub, 1) := by decide +kernel
theorem dX9_recordTokens_135 : decode cX9_recordTokens 135 = .ok (.iaload, 1) := by decide +kernel
theorem dX9_recordTokens_136 : decode cX9_recordTokens 136 = .ok (.iastore, 1) := by decide +kernel
theorem dX9_recordTokens_137 : decode cX9_recordTokens 137 = .ok (.iinc 6 (-1), 3) := by decide +kernel
theorem dX9_recordTokens_140 : decode cX9_recordTokens 140 = .ok (.goto (-39), 3) := by decide +kernel
theorem dX9_recordTokens_143 : decode cX9_recordTokens 143 = .ok (.aload_n 0, 1) := by decide +kernel
theorem dX9_recordTokens_144 : decode cX9_recordTokens 144 = .ok (.getfield 18, 3) := by decide +kernel
theorem dX9_recordTokens_147 : decode cX9_recordTokens 147 = .ok (.iload 6, 2) := by decide +kernel
theorem dX9_recordTokens_149 : decode cX9_recordTokens 149 = .ok (.iload 5, 2) := by decide +kernel
theorem dX9_recordTokens_151 : decode cX9_recordTokens 151 = .ok (.iastore, 1) := by decide +kernel
theorem dX9_recordTokens_152 : decode cX9_recordTokens 152 = .ok (.iinc 3 1, 3) := by decide +kernel
theorem dX9_recordTokens_155 : decode cX9_recordTokens 155 = .ok (.iinc 4 1, 3) := by decide +kernel
theorem dX9_recordTokens_158 : decode cX9_recordTokens 158 = .ok (.goto (-153), 3) := by decide +kernel
theorem dX9_recordTokens_161 : decode cX9_recordTokens 161 = .ok (.return_, 1) := by decide +kernel
theorem dX9_isSame_0 : decode cX9_isSame 0 = .ok (.iconst 0, 1) := by decide +kernel
theorem dX9_isSame_1 : decode cX9_isSame 1 = .ok (.istore_n 3, 1) := by decide +kernel
theorem dX9_isSame_2 : decode cX9_isSame 2 = .ok (.iload_n 3, 1) := by decide +kernel
theorem dX9_isSame_3 : decode cX9_isSame 3 = .ok (.sipush 162, 3) := by decide +kernel
theorem dX9_isSame_6 : decode cX9_isSame 6 = .ok (.if_icmp .ge 30, 3) := by decide +kernel
theorem dX9_isSame_9 : decode cX9_isSame 9 = .ok (.aload_n 0, 1) := by decide +kernel
theorem dX9_isSame_10 : decode cX9_isSame 10 = .ok (.getfield 18, 3) := by decide +kernel
theorem dX9_isSame_13 : decode cX9_isSame 13 = .ok (.iload_n 1, 1) := by decide +kernel
theorem dX9_isSame_14 : decode cX9_isSame 14 = .ok (.iload_n 3, 1) := by decide +kernel
theorem dX9_isSame_15 : decode cX9_isSame 15 = .ok (.iadd, 1) := by decide +kernel
theorem dX9_isSame_16 : decode cX9_isSame 16 = .ok (.iaload, 1) := by decide +kernel
theorem dX9_isSame_17 : decode cX9_isSame 17 = .ok (.aload_n 0, 1) := by decide +kernel
theorem dX9_isSame_18 : decode cX9_isSame 18 = .ok (.getfield 18, 3) := by decide +kernel
theorem dX9_isSame_21 : decode cX9_isSame 21 = .ok (.iload_n 2, 1) := by decide +kernel
theorem dX9_isSame_22 : decode cX9_isSame 22 = .ok (.iload_n 3, 1) := by decide +kernel
theorem dX9_isSame_23 : decode cX9_isSame 23 = .ok (.iadd, 1) := by decide +kernel
theorem dX9_isSame_24 : decode cX9_isSame 24 = .ok (.iaload, 1) := by decide +kernel
theorem dX9_isSame_25 : decode cX9_isSame 25 = .ok (.if_icmp .eq 5, 3) := by decide +kernel
theorem dX9_isSame_28 : decode cX9_isSame 28 = .ok (.iconst 0, 1) := by decide +kernel
theorem dX9_isSame_29 : decode cX9_isSame 29 = .ok (.ireturn, 1) := by decide +kernel
theorem dX9_isSame_30 : decode cX9_isSame 30 = .ok (.iinc 3 1, 3) := by decide +kernel
theorem dX9_isSame_33 : decode cX9_isSame 33 = .ok (.goto (-31), 3) := by decide +kernel
theorem dX9_isSame_36 : decode cX9_isSame 36 = .ok (.iconst 1, 1) := by decide +kernel
theorem dX9_isSame_37 : decode cX9_isSame 37 = .ok (.ireturn, 1) := by decide +kernel
theorem dX10_init_0 : decode cX10_init 0 = .ok (.aload_n 0, 1) := by decide +kernel
theorem dX10_init_1 : decode cX10_init 1 = .ok (.invokespecial 3, 3) := by decide +kernel
theorem dX10_init_4 : decode cX10_init 4 = .ok (.aload_n 0, 1) := by decide +kernel
theorem dX10_init_5 : decode cX10_init 5 = .ok (.new 9, 3) := by decide +kernel
theorem dX10_init_8 : decode cX10_init 8 = .ok (.dup, 1) := by decide +kernel
theorem dX10_init_9 : decode cX10_init 9 = .ok (.invokespecial 11, 3) := by decide +kernel
theorem dX10_init_12 : decode cX10_init 12 = .ok (.putfield 12, 3) := by decide +kernel
theorem dX10_init_15 : decode cX10_init 15 = .ok (.aload_n 0, 1) := by decide +kernel
theorem dX10_init_16 : decode cX10_init 16 = .ok (.new 18, 3) := by decide +kernel
theorem dX10_init_19 : decode cX10_init 19 = .ok (.dup, 1) := by decide +kernel
theorem dX10_init_20 : decode cX10_init 20 = .ok (.invokespecial 20, 3) := by decide +kernel
theorem dX10_init_23 : decode cX10_init 23 = .ok (.putfield 21, 3) := by decide +kernel
theorem dX10_init_26 : decode cX10_init 26 = .ok (.aload_n 0, 1) := by decide +kernel
theorem dX10_init_27 : decode cX10_init 27 = .ok (.bipush 6, 2) := by decide +kernel
theorem dX10_init_29 : decode cX10_init 29 = .ok (.newarray .int, 2) := by decide +kernel
theorem dX10_init_31 : decode cX10_init 31 = .ok (.putfield 25, 3) := by decide +kernel
theorem dX10_init_34 : decode cX10_init 34 = .ok (.aload_n 0, 1) := by decide +kernel
theorem dX10_init_35 : decode cX10_init 35 = .ok (.bipush 120, 2) := by decide +kernel
theorem dX10_init_37 : decode cX10_init 37 = .ok (.newarray .int, 2) := by decide +kernel
theorem dX10_init_39 : decode cX10_init 39 = .ok (.putfield 29, 3) := by decide +kernel
theorem dX10_init_42 : decode cX10_init 42 = .ok (.aload_n 0, 1) := by decide +kernel
theorem dX10_init_43 : decode cX10_init 43 = .ok (.iconst 4, 1) := by decide +kernel
theorem dX10_init_44 : decode cX10_init 44 = .ok (.anewarray 32, 3) := by decide +kernel
theorem dX10_init_47 : decode cX10_init 47 = .ok (.putfield 34, 3) := by decide +kernel
theorem dX10_init_50 : decode cX10_init 50 = .ok (.aload_n 0, 1) := by decide +kernel
theorem dX10_init_51 : decode cX10_init 51 = .ok (.new 38, 3) := by decide +kernel
theorem dX10_init_54 : decode cX10_init 54 = .ok (.dup, 1) := by decide +kernel
theorem dX10_init_55 : decode cX10_init 55 = .ok (.invokespecial 40, 3) := by decide +kernel
theorem dX10_init_58 : decode cX10_init 58 = .ok (.putfield 41, 3) := by decide +kernel
theorem dX10_init_61 : decode cX10_init 61 = .ok (.aload_n 0, 1) := by decide +kernel
theorem dX10_init_62 : decode cX10_init 62 = .ok (.aload_n 1, 1) := by decide +kernel
theorem dX10_init_63 : decode cX10_init 63 = .ok (.putfield 45, 3) := by decide +kernel
theorem dX10_init_66 : decode cX10_init 66 = .ok (.aload_n 0, 1) := by decide +kernel
theorem dX10_init_67 : decode cX10_init 67 = .ok (.new 49, 3) := by decide +kernel
theorem dX10_init_70 : decode cX10_init 70 = .ok (.dup, 1) := by decide +kernel
theorem dX10_init_71 : decode cX10_init 71 = .ok (.aload_n 0, 1) := by decide +kernel
theorem dX10_init_72 : decode cX10_init 72 = .ok (.getfield 12, 3) := by decide +kernel
theorem dX10_init_75 : decode cX10_init 75 = .ok (.aload_n 2, 1) := by decide +kernel
theorem dX10_init_76 : decode cX10_init 76 = .ok (.invokespecial 51, 3) := by decide +kernel
theorem dX10_init_79 : decode cX10_init 79 = .ok (.putfield 54, 3) := by decide +kernel
theorem dX10_init_82 : decode cX10_init 82 = .ok (.iconst 0, 1) := by decide +kernel
theorem dX10_init_83 : decode cX10_init 83 = .ok (.istore_n 3, 1) := by decide +kernel
theorem dX10_init_84 : decode cX10_init 84 = .ok (.iload_n 3, 1) := by decide +kernel
theorem dX10_init_85 : decode cX10_init 85 = .ok (.aload_n 0, 1) := by decide +kernel
theorem dX10_init_86 : decode cX10_init 86 = .ok (.getfield 34, 3) := by decide +kernel
theorem dX10_init_89 : decode cX10_init 89 = .ok (.arraylength, 1) := by decide +kernel
theorem dX10_init_90 : decode cX10_init 90 = .ok (.if_icmp .ge 22, 3) := by decide +kernel
theorem dX10_init_93 : decode cX10_init 93 = .ok (.aload_n 0, 1) := by decide +kernel
theorem dX10_init_94 : decode cX10_init 94 = .ok (.getfield 34, 3) := by decide +kernel
theorem dX10_init_97 : decode cX10_init 97 = .ok (.iload_n 3, 1) := by decide +kernel
theorem dX10_init_98 : decode cX10_init 98 = .ok (.new 32, 3) := by decide +kernel
theorem dX10_init_101 : decode cX10_init 101 = .ok (.dup, 1) := by decide +kernel
theorem dX10_init_102 : decode cX10_init 102 = .ok (.invokespecial 58, 3) := by decide +kernel
theorem dX10_init_105 : decode cX10_init 105 = .ok (.aastore, 1) := by decide +kernel
theorem dX10_init_106 : decode cX10_init 106 = .ok (.iinc 3 1, 3) := by decide +kernel
theorem dX10_init_109 : decode cX10_init 109 = .ok (.goto (-25), 3) := by decide +kernel
theorem dX10_init_112 : decode cX10_init 112 = .ok (.aload_n 0, 1) := by decide +kernel
theorem dX10_init_113 : decode cX10_init 113 = .ok (.getfield 25, 3) := by decide +kernel
theorem dX10_init_116 : decode cX10_init 116 = .ok (.iconst (-1), 1) := by decide +kernel
theorem dX10_init_117 : decode cX10_init 117 = .ok (.invokestatic 59, 3) := by decide +kernel
theorem dX10_init_120 : decode cX10_init 120 = .ok (.return_, 1) := by decide +kernel
theorem dX10_clear_0 : decode cX10_clear 0 = .ok (.aload_n 0, 1) := by decide +kernel
theorem dX10_clear_1 : decode cX10_clear 1 = .ok (.getfield 12, 3) := by decide +kernel
theorem dX10_clear_4 : decode cX10_clear 4 = .ok (.invokevirtual 65, 3) := by decide +kernel
theorem dX10_clear_7 : decode cX10_clear 7 = .ok (.aload_n 0, 1) := by decide +kernel
theorem dX10_clear_8 : decode cX10_clear 8 = .ok (.getfield 54, 3) := by decide +kernel
theorem dX10_clear_11 : decode cX10_clear 11 = .ok (.invokevirtual 68, 3) := by decide +kernel
theorem dX10_clear_14 : decode cX10_clear 14 = .ok (.aload_n 0, 1) := by decide +kernel
theorem dX10_clear_15 : decode cX10_clear 15 = .ok (.getfield 21, 3) := by decide +kernel
theorem dX10_clear_18 : decode cX10_clear 18 = .ok (.invokevirtual 69, 3) := by decide +kernel
theorem dX10_clear_21 : decode cX10_clear 21 = .ok (.aload_n 0, 1) := by decide +kernel
theorem dX10_clear_22 : decode cX10_clear 22 = .ok (.getfield 25, 3) := by decide +kernel
theorem dX10_clear_25 : decode cX10_clear 25 = .ok (.iconst (-1), 1) := by decide +kernel
theorem dX10_clear_26 : decode cX10_clear 26 = .ok (.invokestatic 59, 3) := by decide +kernel
theorem dX10_clear_29 : decode cX10_clear 29 = .ok (.aload_n 0, 1) := by decide +kernel
theorem dX10_clear_30 : decode cX10_clear 30 = .ok (.getfield 29, 3) := by decide +kernel
theorem dX10_clear_33 : decode cX10_clear 33 = .ok (.iconst 0, 1) := by decide +kernel
theorem dX10_clear_34 : decode cX10_clear 34 = .ok (.invokestatic 59, 3) := by decide +kernel
theorem dX10_clear_37 : decode cX10_clear 37 = .ok (.aload_n 0, 1) := by decide +kernel
theorem dX10_clear_38 : decode cX10_clear 38 = .ok (.getfield 34, 3) := by decide +kernel
theorem dX10_clear_41 : decode cX10_clear 41 = .ok (.iconst 0, 1) := by decide +kernel
theorem dX10_clear_42 : decode cX10_clear 42 = .ok (.aaload, 1) := by decide +kernel
theorem dX10_clear_43 : decode cX10_clear 43 = .ok (.invokevirtual 70, 3) := by decide +kernel
theorem dX10_clear_46 : decode cX10_clear 46 = .ok (.aload_n 0, 1) := by decide +kernel
theorem dX10_clear_47 : decode cX10_clear 47 = .ok (.iconst 0, 1) := by decide +kernel
theorem dX10_clear_48 : decode cX10_clear 48 = .ok (.putfield 73, 3) := by decide +kernel
theorem dX10_clear_51 : decode cX10_clear 51 = .ok (.aload_n 0, 1) := by decide +kernel
theorem dX10_clear_52 : decode cX10_clear 52 = .ok (.iconst 0, 1) := by decide +kernel
theorem dX10_clear_53 : decode cX10_clear 53 = .ok (.putfield 77, 3) := by decide +kernel
theorem dX10_clear_56 : decode cX10_clear 56 = .ok (.return_, 1) := by decide +kernel
theorem dX10_copyFrom_0 : decode cX10_copyFrom 0 = .ok (.aload_n 0, 1) := by decide +kernel
theorem dX10_copyFrom_1 : decode cX10_copyFrom 1 = .ok (.getfield 12, 3) := by decide +kernel
theorem dX10_copyFrom_4 : decode cX10_copyFrom 4 = .ok (.aload_n 1, 1) := by decide +kernel
theorem dX10_copyFrom_5 : decode cX10_copyFrom 5 = .ok (.getfield 12, 3) := by decide +kernel
theorem dX10_copyFrom_8 : decode cX10_copyFrom 8 = .ok (.invokevirtual 80, 3) := by decide +kernel
theorem dX10_copyFrom_11 : decode cX10_copyFrom 11 = .ok (.aload_n 0, 1) := by decide +kernel
theorem dX10_copyFrom_12 : decode cX10_copyFrom 12 = .ok (.getfield 54, 3) := by decide +kernel
theorem dX10_copyFrom_15 : decode cX10_copyFrom 15 = .ok (.aload_n 1, 1) := by decide +kernel
theorem dX10_copyFrom_16 : decode cX10_copyFrom 16 = .ok (.getfield 54, 3) := by decide +kernel
theorem dX10_copyFrom_19 : decode cX10_copyFrom 19 = .ok (.invokevirtual 84, 3) := by decide +kernel
theorem dX10_copyFrom_22 : decode cX10_copyFrom 22 = .ok (.aload_n 0, 1) := by decide +kernel
theorem dX10_copyFrom_23 : decode cX10_copyFrom 23 = .ok (.getfield 21, 3) := by decide +kernel
theorem dX10_copyFrom_26 : decode cX10_copyFrom 26 = .ok (.aload_n 1, 1) := by decide +kernel
theorem dX10_copyFrom_27 : decode cX10_copyFrom 27 = .ok (.getfield 21, 3) := by decide +kernel
theorem dX10_copyFrom_30 : decode cX10_copyFrom 30 = .ok (.invokevirtual 87, 3) := by decide +kernel
theorem dX10_copyFrom_33 : decode cX10_copyFrom 33 = .ok (.aload_n 1, 1) := by decide +kernel
theorem dX10_copyFrom_34 : decode cX10_copyFrom 34 = .ok (.getfield 25, 3) := by decide +kernel
theorem dX10_copyFrom_37 : decode cX10_copyFrom 37 = .ok (.iconst 0, 1) := by decide +kernel
theorem dX10_copyFrom_38 : decode cX10_copyFrom 38 = .ok (.aload_n 0, 1) := by decide +kernel
theorem dX10_copyFrom_39 : decode cX10_copyFrom 39 = .ok (.getfield 25, 3) := by decide +kernel
theorem dX10_copyFrom_42 : decode cX10_copyFrom 42 = .ok (.iconst 0, 1) := by decide +kernel
theorem dX10_copyFrom_43 : decode cX10_copyFrom 43 = .ok (.bipush 6, 2) := by decide +kernel
theorem dX10_copyFrom_45 : decode cX10_copyFrom 45 = .ok (.invokestatic 90, 3) := by decide +kernel
theorem dX10_copyFrom_48 : decode cX10_copyFrom 48 = .ok (.aload_n 1, 1) := by decide +kernel
theorem dX10_copyFrom_49 : decode cX10_copyFrom 49 = .ok (.getfield 29, 3) := by decide +kernel
theorem dX10_copyFrom_52 : decode cX10_copyFrom 52 = .ok (.iconst 0, 1) := by decide +kernel
theorem dX10_copyFrom_53 : decode cX10_copyFrom 53 = .ok (.aload_n 0, 1) := by decide +kernel
theorem dX10_copyFrom_54 : decode cX10_copyFrom 54 = .ok (.getfield 29, 3) := by decide +kernel
theorem dX10_copyFrom_57 : decode cX10_copyFrom 57 = .ok (.iconst 0, 1) := by decide +kernel
theorem dX10_copyFrom_58 : decode cX10_copyFrom 58 = .ok (.aload_n 0, 1) := by decide +kernel
theorem dX10_copyFrom_59 : decode cX10_copyFrom 59 = .ok (.getfield 29, 3) := by decide +kernel
theorem dX10_copyFrom_62 : decode cX10_copyFrom 62 = .ok (.arraylength, 1) := by decide +kernel
theorem dX10_copyFrom_63 : decode cX10_copyFrom 63 = .ok (.invokestatic 90, 3) := by decide +kernel
theorem dX10_copyFrom_66 : decode cX10_copyFrom 66 = .ok (.aload_n 0, 1) := by decide +kernel
theorem dX10_copyFrom_67 : decode cX10_copyFrom 67 = .ok (.getfield 34, 3) := by decide +kernel
theorem dX10_copyFrom_70 : decode cX10_copyFrom 70 = .ok (.iconst 0, 1) := by decide +kernel
theorem dX10_copyFrom_71 : decode cX10_copyFrom 71 = .ok (.aaload, 1) := by decide +kernel
theorem dX10_copyFrom_72 : decode cX10_copyFrom 72 = .ok (.invokevirtual 70, 3) := by decide +kernel
theorem dX10_copyFrom_75 : decode cX10_copyFrom 75 = .ok (.aload_n 0, 1) := by decide +kernel
theorem dX10_copyFrom_76 : decode cX10_copyFrom 76 = .ok (.getfield 34, 3) := by decide +kernel
theorem dX10_copyFrom_79 : decode cX10_copyFrom 79 = .ok (.iconst 0, 1) := by decide +kernel
theorem dX10_copyFrom_80 : decode cX10_copyFrom 80 = .ok (.aaload, 1) := by decide +kernel
theorem dX10_copyFrom_81 : decode cX10_copyFrom 81 = .ok (.getfield 96, 3) := by decide +kernel
theorem dX10_copyFrom_84 : decode cX10_copyFrom 84 = .ok (.aload_n 1, 1) := by decide +kernel
theorem dX10_copyFrom_85 : decode cX10_copyFrom 85 = .ok (.getfield 34, 3) := by decide +kernel
theorem dX10_copyFrom_88 : decode cX10_copyFrom 88 = .ok (.iconst 0, 1) := by decide +kernel
theorem dX10_copyFrom_89 : decode cX10_copyFrom 89 = .ok (.aaload, 1) := by decide +kernel
theorem dX10_copyFrom_90 : decode cX10_copyFrom 90 = .ok (.getfield 96, 3) := by decide +kernel
theorem dX10_copyFrom_93 : decode cX10_copyFrom 93 = .ok (.invokevirtual 100, 3) := by decide +kernel
theorem dX10_copyFrom_96 : decode cX10_copyFrom 96 = .ok (.aload_n 0, 1) := by decide +kernel
theorem dX10_copyFrom_97 : decode cX10_copyFrom 97 = .ok (.aload_n 1, 1) := by decide +kernel
theorem dX10_copyFrom_98 : decode cX10_copyFrom 98 = .ok (.getfield 73, 3) := by decide +kernel
theorem dX10_copyFrom_101 : decode cX10_copyFrom 101 = .ok (.putfield 73, 3) := by decide +kernel
theorem dX10_copyFrom_104 : decode cX10_copyFrom 104 = .ok (.aload_n 0, 1) := by decide +kernel
theorem dX10_copyFrom_105 : decode cX10_copyFrom 105 = .ok (.aload_n 1, 1) := by decide +kernel
theorem dX10_copyFrom_106 : decode cX10_copyFrom 106 = .ok (.getfield 77, 3) := by decide +kernel
theorem dX10_copyFrom_109 : decode cX10_copyFrom 109 = .ok (.putfield 77, 3) := by decide +kernel
theorem dX10_copyFrom_112 : decode cX10_copyFrom 112 = .ok (.return_, 1) := by decide +kernel
theorem dX10_forNext_0 : decode cX10_forNext 0 = .ok (.aload_n 0, 1) := by decide +kernel
theorem dX10_forNext_1 : decode cX10_forNext 1 = .ok (.getfield 34, 3) := by decide +kernel
theorem dX10_forNext_4 : decode cX10_forNext 4 = .ok (.iconst 0, 1) := by decide +kernel
theorem dX10_forNext_5 : decode cX10_forNext 5 = .ok (.aaload, 1) := by decide +kernel
theorem dX10_forNext_6 : decode cX10_forNext 6 = .ok (.getfield 96, 3) := by decide +kernel
theorem dX10_forNext_9 : decode cX10_forNext 9 = .ok (.getfield 106, 3) := by decide +kernel
theorem dX10_forNext_12 : decode cX10_forNext 12 = .ok (.ireturn, 1) := by decide +kernel
theorem dX10_admit_0 : decode cX10_admit 0 = .ok (.aload_n 0, 1) := by decide +kernel
theorem dX10_admit_1 : decode cX10_admit 1 = .ok (.getfield 41, 3) := by decide +kernel
theorem dX10_admit_4 : decode cX10_admit 4 = .ok (.iload_n 1, 1) := by decide +kernel
theorem dX10_admit_5 : decode cX10_admit 5 = .ok (.iload_n 2, 1) := by decide +kernel
theorem dX10_admit_6 : decode cX10_admit 6 = .ok (.iload_n 3, 1) := by decide +kernel
theorem dX10_admit_7 : decode cX10_admit 7 = .ok (.invokevirtual 109, 3) := by decide +kernel
theorem dX10_admit_10 : decode cX10_admit 10 = .ok (.aload_n 0, 1) := by decide +kernel
theorem dX10_admit_11 : decode cX10_admit 11 = .ok (.getfield 41, 3) := by decide +kernel
theorem dX10_admit_14 : decode cX10_admit 14 = .ok (.lconst 0, 1) := by decide +kernel
theorem dX10_admit_15 : decode cX10_admit 15 = .ok (.putfield 113, 3) := by decide +kernel
theorem dX10_admit_18 : decode cX10_admit 18 = .ok (.aload_n 0, 1) := by decide +kernel
theorem dX10_admit_19 : decode cX10_admit 19 = .ok (.getfield 41, 3) := by decide +kernel
theorem dX10_admit_22 : decode cX10_admit 22 = .ok (.lconst 0, 1) := by decide +kernel
theorem dX10_admit_23 : decode cX10_admit 23 = .ok (.putfield 117, 3) := by decide +kernel
theorem dX10_admit_26 : decode cX10_admit 26 = .ok (.aload_n 0, 1) := by decide +kernel
theorem dX10_admit_27 : decode cX10_admit 27 = .ok (.getfield 34, 3) := by decide +kernel
theorem dX10_admit_30 : decode cX10_admit 30 = .ok (.iconst 0, 1) := by decide +kernel
theorem dX10_admit_31 : decode cX10_admit 31 = .ok (.aaload, 1) := by decide +kernel
theorem dX10_admit_32 : decode cX10_admit 32 = .ok (.getfield 96, 3) := by decide +kernel
theorem dX10_admit_35 : decode cX10_admit 35 = .ok (.iload_n 1, 1) := by decide +kernel
theorem dX10_admit_36 : decode cX10_admit 36 = .ok (.aload_n 0, 1) := by decide +kernel
theorem dX10_admit_37 : decode cX10_admit 37 = .ok (.getfield 41, 3) := by decide +kernel
theorem dX10_admit_40 : decode cX10_admit 40 = .ok (.invokevirtual 120, 3) := by decide +kernel
theorem dX10_admit_43 : decode cX10_admit 43 = .ok (.return_, 1) := by decide +kernel
theorem dX10_doStep_0 : decode cX10_doStep 0 = .ok (.aload_n 0, 1) := by decide +kernel
theorem dX10_doStep_1 : decode cX10_doStep 1 = .ok (.getfield 34, 3) := by decide +kernel
theorem dX10_doStep_4 : decode cX10_doStep 4 = .ok (.iconst 0, 1) := by decide +kernel
theorem dX10_doStep_5 : decode cX10_doStep 5 = .ok (.aaload, 1) := by decide +kernel
theorem dX10_doStep_6 : decode cX10_doStep 6 = .ok (.astore_n 2, 1) := by decide +kernel
theorem dX10_doStep_7 : decode cX10_doStep 7 = .ok (.aload_n 2, 1) := by decide +kernel
theorem dX10_doStep_8 : decode cX10_doStep 8 = .ok (.getfield 96, 3) := by decide +kernel
theorem dX10_doStep_11 : decode cX10_doStep 11 = .ok (.astore_n 3, 1) := by decide +kernel
theorem dX10_doStep_12 : decode cX10_doStep 12 = .ok (.aload_n 2, 1) := by decide +kernel
theorem dX10_doStep_13 : decode cX10_doStep 13 = .ok (.getfield 124, 3) := by decide +kernel
theorem dX10_doStep_16 : decode cX10_doStep 16 = .ok (.iconst 0, 1) := by decide +kernel
theorem dX10_doStep_17 : decode cX10_doStep 17 = .ok (.putfield 106, 3) := by decide +kernel
theorem dX10_doStep_20 : decode cX10_doStep 20 = .ok (.aload_n 2, 1) := by decide +kernel
theorem dX10_doStep_21 : decode cX10_doStep 21 = .ok (.getfield 124, 3) := by decide +kernel
theorem dX10_doStep_24 : decode cX10_doStep 24 = .ok (.aload_n 3, 1) := by decide +kernel
theorem dX10_doStep_25 : decode cX10_doStep 25 = .ok (.invokevirtual 100, 3) := by decide +kernel
theorem dX10_doStep_28 : decode cX10_doStep 28 = .ok (.aload_n 3, 1) := by decide +kernel
theorem dX10_doStep_29 : decode cX10_doStep 29 = .ok (.iconst 0, 1) := by decide +kernel
theorem dX10_doStep_30 : decode cX10_doStep 30 = .ok (.putfield 106, 3) := by decide +kernel
theorem dX10_doStep_33 : decode cX10_doStep 33 = .ok (.aload_n 2, 1) := by decide +kernel
theorem dX10_doStep_34 : decode cX10_doStep 34 = .ok (.getfield 127, 3) := by decide +kernel
theorem dX10_doStep_37 : decode cX10_doStep 37 = .ok (.iconst 0, 1) := by decide +kernel
theorem dX10_doStep_38 : decode cX10_doStep 38 = .ok (.putfield 106, 3) := by decide +kernel
theorem dX10_doStep_41 : decode cX10_doStep 41 = .ok (.aload_n 2, 1) := by decide +kernel
theorem dX10_doStep_42 : decode cX10_doStep 42 = .ok (.getfield 130, 3) := by decide +kernel
theorem dX10_doStep_45 : decode cX10_doStep 45 = .ok (.iconst 0, 1) := by decide +kernel
theorem dX10_doStep_46 : decode cX10_doStep 46 = .ok (.putfield 106, 3) := by decide +kernel
theorem dX10_doStep_49 : decode cX10_doStep 49 = .ok (.aload_n 0, 1) := by decide +kernel
theorem dX10_doStep_50 : decode cX10_doStep 50 = .ok (.getfield 54, 3) := by decide +kernel
theorem dX10_doStep_53 : decode cX10_doStep 53 = .ok (.invokevirtual 133, 3) := by decide +kernel
theorem dX10_doStep_56 : decode cX10_doStep 56 = .ok (.aload_n 0, 1) := by decide +kernel
theorem dX10_doStep_57 : decode cX10_doStep 57 = .ok (.getfield 12, 3) := by decide +kernel
theorem dX10_doStep_60 : decode cX10_doStep 60 = .ok (.iconst 0, 1) := by decide +kernel
theorem dX10_doStep_61 : decode cX10_doStep 61 = .ok (.putfield 136, 3) := by decide +kernel
theorem dX10_doStep_64 : decode cX10_doStep 64 = .ok (.aload_n 0, 1) := by decide +kernel
theorem dX10_doStep_65 : decode cX10_doStep 65 = .ok (.iconst 0, 1) := by decide +kernel
theorem dX10_doStep_66 : decode cX10_doStep 66 = .ok (.putfield 139, 3) := by decide +kernel
theorem dX10_doStep_69 : decode cX10_doStep 69 = .ok (.aload_n 0, 1) := by decide +kernel
theorem dX10_doStep_70 : decode cX10_doStep 70 = .ok (.iconst 0, 1) := by decide +kernel
theorem dX10_doStep_71 : decode cX10_doStep 71 = .ok (.putfield 142, 3) := by decide +kernel
theorem dX10_doStep_74 : decode cX10_doStep 74 = .ok (.aload_n 0, 1) := by decide +kernel
theorem dX10_doStep_75 : decode cX10_doStep 75 = .ok (.dup, 1) := by decide +kernel
theorem dX10_doStep_76 : decode cX10_doStep 76 = .ok (.getfield 73, 3) := by decide +kernel
theorem dX10_doStep_79 : decode cX10_doStep 79 = .ok (.iconst 1, 1) := by decide +kernel
theorem dX10_doStep_80 : decode cX10_doStep 80 = .ok (.iadd, 1) := by decide +kernel
theorem dX10_doStep_81 : decode cX10_doStep 81 = .ok (.putfield 73, 3) := by decide +kernel
theorem dX10_doStep_84 : decode cX10_doStep 84 = .ok (.iconst 0, 1) := by decide +kernel
theorem dX10_doStep_85 : decode cX10_doStep 85 = .ok (.istore 4, 2) := by decide +kernel
theorem dX10_doStep_87 : decode cX10_doStep 87 = .ok (.iload 4, 2) := by decide +kernel
theorem dX10_doStep_89 : decode cX10_doStep 89 = .ok (.ldc 146, 2) := by decide +kernel
theorem dX10_doStep_91 : decode cX10_doStep 91 = .ok (.if_icmp .ge 131, 3) := by decide +kernel
theorem dX10_doStep_94 : decode cX10_doStep 94 = .ok (.aload_n 0, 1) := by decide +kernel
theorem dX10_doStep_95 : decode cX10_doStep 95 = .ok (.getfield 142, 3) := by decide +kernel
theorem dX10_doStep_98 : decode cX10_doStep 98 = .ok (.ifCond .ne 124, 3) := by decide +kernel
theorem dX10_doStep_101 : decode cX10_doStep 101 = .ok (.aload_n 0, 1) := by decide +kernel
theorem dX10_doStep_102 : decode cX10_doStep 102 = .ok (.getfield 34, 3) := by decide +kernel
theorem dX10_doStep_105 : decode cX10_doStep 105 = .ok (.aload_n 0, 1) := by decide +kernel
theorem dX10_doStep_106 : decode cX10_doStep 106 = .ok (.getfield 139, 3) := by decide +kernel
theorem dX10_doStep_109 : decode cX10_doStep 109 = .ok (.aaload, 1) := by decide +kernel
theorem dX10_doStep_110 : decode cX10_doStep 110 = .ok (.astore 5, 2) := by decide +kernel
theorem dX10_doStep_112 : decode cX10_doStep 112 = .ok (.aload 5, 2) := by decide +kernel
theorem dX10_doStep_114 : decode cX10_doStep 114 = .ok (.getfield 124, 3) := by decide +kernel
theorem dX10_doStep_117 : decode cX10_doStep 117 = .ok (.getfield 106, 3) := by decide +kernel
theorem dX10_doStep_120 : decode cX10_doStep 120 = .ok (.istore 6, 2) := by decide +kernel
theorem dX10_doStep_122 : decode cX10_doStep 122 = .ok (.aload_n 0, 1) := by decide +kernel
theorem dX10_doStep_123 : decode cX10_doStep 123 = .ok (.getfield 12, 3) := by decide +kernel
theorem dX10_doStep_126 : decode cX10_doStep 126 = .ok (.getfield 147, 3) := by decide +kernel
theorem dX10_doStep_129 : decode cX10_doStep 129 = .ok (.ifCond .eq 12, 3) := by decide +kernel
theorem dX10_doStep_132 : decode cX10_doStep 132 = .ok (.aload_n 0, 1) := by decide +kernel
theorem dX10_doStep_133 : decode cX10_doStep 133 = .ok (.aload 5, 2) := by decide +kernel
theorem dX10_doStep_135 : decode cX10_doStep 135 = .ok (.invokevirtual 150, 3) := by decide +kernel
theorem dX10_doStep_138 : decode cX10_doStep 138 = .ok (.goto 78, 3) := by decide +kernel
theorem dX10_doStep_141 : decode cX10_doStep 141 = .ok (.aload_n 0, 1) := by decide +kernel
theorem dX10_doStep_142 : decode cX10_doStep 142 = .ok (.getfield 54, 3) := by decide +kernel
theorem dX10_doStep_145 : decode cX10_doStep 145 = .ok (.invokevirtual 154, 3) := by decide +kernel
theorem dX10_doStep_148 : decode cX10_doStep 148 = .ok (.ifCond .eq 13, 3) := by decide +kernel
theorem dX10_doStep_151 : decode cX10_doStep 151 = .ok (.aload_n 0, 1) := by decide +kernel
theorem dX10_doStep_152 : decode cX10_doStep 152 = .ok (.getfield 54, 3) := by decide +kernel
theorem dX10_doStep_155 : decode cX10_doStep 155 = .ok (.invokevirtual 158, 3) := by decide +kernel
theorem dX10_doStep_158 : decode cX10_doStep 158 = .ok (.goto 58, 3) := by decide +kernel
theorem dX10_doStep_161 : decode cX10_doStep 161 = .ok (.iload 6, 2) := by decide +kernel
theorem dX10_doStep_163 : decode cX10_doStep 163 = .ok (.ifCond .le 29, 3) := by decide +kernel
theorem dX10_doStep_166 : decode cX10_doStep 166 = .ok (.aload_n 0, 1) := by decide +kernel
theorem dX10_doStep_167 : decode cX10_doStep 167 = .ok (.aload 5, 2) := by decide +kernel
theorem dX10_doStep_169 : decode cX10_doStep 169 = .ok (.aload_n 0, 1) := by decide +kernel
theorem dX10_doStep_170 : decode cX10_doStep 170 = .ok (.getfield 139, 3) := by decide +kernel
theorem dX10_doStep_173 : decode cX10_doStep 173 = .ok (.ifCond .ne 12, 3) := by decide +kernel
theorem dX10_doStep_176 : decode cX10_doStep 176 = .ok (.aload_n 1, 1) := by decide +kernel
theorem dX10_doStep_177 : decode cX10_doStep 177 = .ok (.iload 6, 2) := by decide +kernel
theorem dX10_doStep_179 : decode cX10_doStep 179 = .ok (.invokevirtual 161, 3) := by decide +kernel
theorem dX10_doStep_182 : decode cX10_doStep 182 = .ok (.goto 4, 3) := by decide +kernel
theorem dX10_doStep_185 : decode cX10_doStep 185 = .ok (.iconst 0, 1) := by decide +kernel
theorem dX10_doStep_186 : decode cX10_doStep 186 = .ok (.invokevirtual 167, 3) := by decide +kernel
theorem dX10_doStep_189 : decode cX10_doStep 189 = .ok (.goto 27, 3) := by decide +kernel
theorem dX10_doStep_192 : decode cX10_doStep 192 = .ok (.aload_n 0, 1) := by decide +kernel
theorem dX10_doStep_193 : decode cX10_doStep 193 = .ok (.aload 5, 2) := by decide +kernel
theorem dX10_doStep_195 : decode cX10_doStep 195 = .ok (.invokevirtual 171, 3) := by decide +kernel
theorem dX10_doStep_198 : decode cX10_doStep 198 = .ok (.ifCond .ne 18, 3) := by decide +kernel
theorem dX10_doStep_201 : decode cX10_doStep 201 = .ok (.aload_n 0, 1) := by decide +kernel
theorem dX10_doStep_202 : decode cX10_doStep 202 = .ok (.aload 5, 2) := by decide +kernel
theorem dX10_doStep_204 : decode cX10_doStep 204 = .ok (.invokevirtual 175, 3) := by decide +kernel
theorem dX10_doStep_207 : decode cX10_doStep 207 = .ok (.ifCond .ne 9, 3) := by decide +kernel
theorem dX10_doStep_210 : decode cX10_doStep 210 = .ok (.aload_n 0, 1) := by decide +kernel
theorem dX10_doStep_211 : decode cX10_doStep 211 = .ok (.aload 5, 2) := by decide +kernel
theorem dX10_doStep_213 : decode cX10_doStep 213 = .ok (.invokevirtual 178, 3) := by decide +kernel
theorem dX10_doStep_216 : decode cX10_doStep 216 = .ok (.iinc 4 1, 3) := by decide +kernel
theorem dX10_doStep_219 : decode cX10_doStep 219 = .ok (.goto (-132), 3) := by decide +kernel
theorem dX10_doStep_222 : decode cX10_doStep 222 = .ok (.return_, 1) := by decide +kernel
theorem dX10_giveUp_0 : decode cX10_giveUp 0 = .ok (.aload_n 0, 1) := by decide +kernel
theorem dX10_giveUp_1 : decode cX10_giveUp 1 = .ok (.getfield 54, 3) := by decide +kernel
theorem dX10_giveUp_4 : decode cX10_giveUp 4 = .ok (.invokevirtual 181, 3) := by decide +kernel
theorem dX10_giveUp_7 : decode cX10_giveUp 7 = .ok (.aload_n 0, 1) := by decide +kernel
theorem dX10_giveUp_8 : decode cX10_giveUp 8 = .ok (.getfield 139, 3) := by decide +kernel
theorem dX10_giveUp_11 : decode cX10_giveUp 11 = .ok (.ifCond .ne 9, 3) := by decide +kernel
theorem dX10_giveUp_14 : decode cX10_giveUp 14 = .ok (.aload_n 0, 1) := by decide +kernel
theorem dX10_giveUp_15 : decode cX10_giveUp 15 = .ok (.iconst 1, 1) := by decide +kernel
theorem dX10_giveUp_16 : decode cX10_giveUp 16 = .ok (.putfield 142, 3) := by decide +kernel
theorem dX10_giveUp_19 : decode cX10_giveUp 19 = .ok (.return_, 1) := by decide +kernel
theorem dX10_giveUp_20 : decode cX10_giveUp 20 = .ok (.aload_n 0, 1) := by decide +kernel
theorem dX10_giveUp_21 : decode cX10_giveUp 21 = .ok (.getfield 12, 3) := by decide +kernel
theorem dX10_giveUp_24 : decode cX10_giveUp 24 = .ok (.aload_n 1, 1) := by decide +kernel
theorem dX10_giveUp_25 : decode cX10_giveUp 25 = .ok (.invokevirtual 184, 3) := by decide +kernel
theorem dX10_giveUp_28 : decode cX10_giveUp 28 = .ok (.aload_n 0, 1) := by decide +kernel
theorem dX10_giveUp_29 : decode cX10_giveUp 29 = .ok (.getfield 54, 3) := by decide +kernel
theorem dX10_giveUp_32 : decode cX10_giveUp 32 = .ok (.aload_n 1, 1) := by decide +kernel
theorem dX10_giveUp_33 : decode cX10_giveUp 33 = .ok (.getfield 187, 3) := by decide +kernel
theorem dX10_giveUp_36 : decode cX10_giveUp 36 = .ok (.invokevirtual 190, 3) := by decide +kernel
theorem dX10_giveUp_39 : decode cX10_giveUp 39 = .ok (.aload_n 0, 1) := by decide +kernel
theorem dX10_giveUp_40 : decode cX10_giveUp 40 = .ok (.dup, 1) := by decide +kernel
theorem dX10_giveUp_41 : decode cX10_giveUp 41 = .ok (.getfield 139, 3) := by decide +kernel
theorem dX10_giveUp_44 : decode cX10_giveUp 44 = .ok (.iconst 1, 1) := by decide +kernel
theorem dX10_giveUp_45 : decode cX10_giveUp 45 = .ok (.isub, 1) := by decide +kernel
theorem dX10_giveUp_46 : decode cX10_giveUp 46 = .ok (.putfield 139, 3) := by decide +kernel
theorem dX10_giveUp_49 : decode cX10_giveUp 49 = .ok (.aload_n 1, 1) := by decide +kernel
theorem dX10_giveUp_50 : decode cX10_giveUp 50 = .ok (.getfield 194, 3) := by decide +kernel
theorem dX10_giveUp_53 : decode cX10_giveUp 53 = .ok (.iconst 0, 1) := by decide +kernel
theorem dX10_giveUp_54 : decode cX10_giveUp 54 = .ok (.aload_n 0, 1) := by decide +kernel
theorem dX10_giveUp_55 : decode cX10_giveUp 55 = .ok (.getfield 41, 3) := by decide +kernel
theorem dX10_giveUp_58 : decode cX10_giveUp 58 = .ok (.invokevirtual 197, 3) := by decide +kernel
theorem dX10_giveUp_61 : decode cX10_giveUp 61 = .ok (.aload_n 0, 1) := by decide +kernel
theorem dX10_giveUp_62 : decode cX10_giveUp 62 = .ok (.getfield 34, 3) := by decide +kernel
theorem dX10_giveUp_65 : decode cX10_giveUp 65 = .ok (.aload_n 0, 1) := by decide +kernel
theorem dX10_giveUp_66 : decode cX10_giveUp 66 = .ok (.getfield 139, 3) := by decide +kernel
theorem dX10_giveUp_69 : decode cX10_giveUp 69 = .ok (.aaload, 1) := by decide +kernel
theorem dX10_giveUp_70 : decode cX10_giveUp 70 = .ok (.getfield 124, 3) := by decide +kernel
theorem dX10_giveUp_73 : decode cX10_giveUp 73 = .ok (.aload_n 0, 1) := by decide +kernel
theorem dX10_giveUp_74 : decode cX10_giveUp 74 = .ok (.getfield 41, 3) := by decide +kernel
theorem dX10_giveUp_77 : decode cX10_giveUp 77 = .ok (.getfield 200, 3) := by decide +kernel
theorem dX10_giveUp_80 : decode cX10_giveUp 80 = .ok (.aload_n 0, 1) := by decide +kernel
theorem dX10_giveUp_81 : decode cX10_giveUp 81 = .ok (.getfield 41, 3) := by decide +kernel
theorem dX10_giveUp_84 : decode cX10_giveUp 84 = .ok (.invokevirtual 120, 3) := by decide +kernel
theorem dX10_giveUp_87 : decode cX10_giveUp 87 = .ok (.return_, 1) := by decide +kernel
theorem dX10_act_0 : decode cX10_act 0 = .ok (.aload_n 1, 1) := by decide +kernel
theorem dX10_act_1 : decode cX10_act 1 = .ok (.getfield 124, 3) := by decide +kernel
theorem dX10_act_4 : decode cX10_act 4 = .ok (.astore_n 3, 1) := by decide +kernel
theorem dX10_act_5 : decode cX10_act 5 = .ok (.aload_n 3, 1) := by decide +kernel
theorem dX10_act_6 : decode cX10_act 6 = .ok (.iload_n 2, 1) := by decide +kernel
theorem dX10_act_7 : decode cX10_act 7 = .ok (.aload_n 0, 1) := by decide +kernel
theorem dX10_act_8 : decode cX10_act 8 = .ok (.getfield 41, 3) := by decide +kernel
theorem dX10_act_11 : decode cX10_act 11 = .ok (.invokevirtual 197, 3) := by decide +kernel
theorem dX10_act_14 : decode cX10_act 14 = .ok (.aload_n 3, 1) := by decide +kernel
theorem dX10_act_15 : decode cX10_act 15 = .ok (.iload_n 2, 1) := by decide +kernel
theorem dX10_act_16 : decode cX10_act 16 = .ok (.invokevirtual 203, 3) := by decide +kernel
theorem dX10_act_19 : decode cX10_act 19 = .ok (.aload_n 0, 1) := by decide +kernel
theorem dX10_act_20 : decode cX10_act 20 = .ok (.getfield 12, 3) := by decide +kernel
theorem dX10_act_23 : decode cX10_act 23 = .ok (.invokevirtual 206, 3) := by decide +kernel
theorem dX10_act_26 : decode cX10_act 26 = .ok (.ifCond .ne 4, 3) := by decide +kernel
theorem dX10_act_29 : decode cX10_act 29 = .ok (.return_, 1) := by decide +kernel
theorem dX10_act_30 : decode cX10_act 30 = .ok (.aload_n 0, 1) := by decide +kernel
theorem dX10_act_31 : decode cX10_act 31 = .ok (.getfield 41, 3) := by decide +kernel
theorem dX10_act_34 : decode cX10_act 34 = .ok (.getfield 200, 3) := by decide +kernel
theorem dX10_act_37 : decode cX10_act 37 = .ok (.istore 4, 2) := by decide +kernel
theorem dX10_act_39 : decode cX10_act 39 = .ok (.aload_n 0, 1) := by decide +kernel
theorem dX10_act_40 : decode cX10_act 40 = .ok (.getfield 45, 3) := by decide +kernel
theorem dX10_act_43 : decode cX10_act 43 = .ok (.getfield 209, 3) := by decide +kernel
theorem dX10_act_46 : decode cX10_act 46 = .ok (.iload 4, 2) := by decide +kernel
theorem dX10_act_48 : decode cX10_act 48 = .ok (.iaload, 1) := by decide +kernel
theorem dX10_act_49 : decode cX10_act 49 = .ok (.istore 5, 2) := by decide +kernel
theorem dX10_act_51 : decode cX10_act 51 = .ok (.aload_n 0, 1) := by decide +kernel
theorem dX10_act_52 : decode cX10_act 52 = .ok (.getfield 45, 3) := by decide +kernel
theorem dX10_act_55 : decode cX10_act 55 = .ok (.getfield 214, 3) := by decide +kernel
theorem dX10_act_58 : decode cX10_act 58 = .ok (.iload 4, 2) := by decide +kernel
theorem dX10_act_60 : decode cX10_act 60 = .ok (.iaload, 1) := by decide +kernel
theorem dX10_act_61 : decode cX10_act 61 = .ok (.istore 6, 2) := by decide +kernel
theorem dX10_act_63 : decode cX10_act 63 = .ok (.aload_n 0, 1) := by decide +kernel
theorem dX10_act_64 : decode cX10_act 64 = .ok (.getfield 41, 3) := by decide +kernel
theorem dX10_act_67 : decode cX10_act 67 = .ok (.aload_n 0, 1) := by decide +kernel
theorem dX10_act_68 : decode cX10_act 68 = .ok (.getfield 45, 3) := by decide +kernel
theorem dX10_act_71 : decode cX10_act 71 = .ok (.getfield 217, 3) := by decide +kernel
theorem dX10_act_74 : decode cX10_act 74 = .ok (.iload 4, 2) := by decide +kernel
theorem dX10_act_76 : decode cX10_act 76 = .ok (.iaload, 1) := by decide +kernel
theorem dX10_act_77 : decode cX10_act 77 = .ok (.invokevirtual 220, 3) := by decide +kernel
theorem dX10_act_80 : decode cX10_act 80 = .ok (.istore 7, 2) := by decide +kernel
theorem dX10_act_82 : decode cX10_act 82 = .ok (.aload_n 0, 1) := by decide +kernel
theorem dX10_act_83 : decode cX10_act 83 = .ok (.getfield 41, 3) := by decide +kernel
theorem dX10_act_86 : decode cX10_act 86 = .ok (.aload_n 0, 1) := by decide +kernel
theorem dX10_act_87 : decode cX10_act 87 = .ok (.getfield 45, 3) := by decide +kernel
theorem dX10_act_90 : decode cX10_act 90 = .ok (.getfield 223, 3) := by decide +kernel
theorem dX10_act_93 : decode cX10_act 93 = .ok (.iload 4, 2) := by decide +kernel
theorem dX10_act_95 : decode cX10_act 95 = .ok (.iaload, 1) := by decide +kernel
theorem dX10_act_96 : decode cX10_act 96 = .ok (.invokevirtual 220, 3) := by decide +kernel
theorem dX10_act_99 : decode cX10_act 99 = .ok (.istore 8, 2) := by decide +kernel
theorem dX10_act_101 : decode cX10_act 101 = .ok (.aload_n 0, 1) := by decide +kernel
theorem dX10_act_102 : decode cX10_act 102 = .ok (.getfield 45, 3) := by decide +kernel
theorem dX10_act_105 : decode cX10_act 105 = .ok (.getfield 226, 3) := by decide +kernel
theorem dX10_act_108 : decode cX10_act 108 = .ok (.iload 4, 2) := by decide +kernel
theorem dX10_act_110 : decode cX10_act 110 = .ok (.iaload, 1) := by decide +kernel
theorem dX10_act_111 : decode cX10_act 111 = .ok (.istore 9, 2) := by decide +kernel
theorem dX10_act_113 : decode cX10_act 113 = .ok (.aload_n 0, 1) := by decide +kernel
theorem dX10_act_114 : decode cX10_act 114 = .ok (.getfield 45, 3) := by decide +kernel
theorem dX10_act_117 : decode cX10_act 117 = .ok (.getfield 229, 3) := by decide +kernel
theorem dX10_act_120 : decode cX10_act 120 = .ok (.iload 4, 2) := by decide +kernel
theorem dX10_act_122 : decode cX10_act 122 = .ok (.iaload, 1) := by decide +kernel
theorem dX10_act_123 : decode cX10_act 123 = .ok (.istore 10, 2) := by decide +kernel
theorem dX10_act_125 : decode cX10_act 125 = .ok (.iload 5, 2) := by decide +kernel
theorem dX10_act_127 : decode cX10_act 127 = .ok (.tableswitch 280 0 13 #[69, 83, 83, 124, 147, 147, 163, 175, 194, 210, 280, 280, 236, 268], 69) := by decide +kernel
theorem dX10_act_196 : decode cX10_act 196 = .ok (.aload_n 0, 1) := by decide +kernel
theorem dX10_act_197 : decode cX10_act 197 = .ok (.getfield 54, 3) := by decide +kernel
theorem dX10_act_200 : decode cX10_act 200 = .ok (.iload 7, 2) := by decide +kernel
theorem dX10_act_202 : decode cX10_act 202 = .ok (.iload 8, 2) := by decide +kernel
theorem dX10_act_204 : decode cX10_act 204 = .ok (.invokevirtual 232, 3) := by decide +kernel
theorem dX10_act_207 : decode cX10_act 207 = .ok (.goto 213, 3) := by decide +kernel
theorem dX10_act_210 : decode cX10_act 210 = .ok (.aload_n 0, 1) := by decide +kernel
theorem dX10_act_211 : decode cX10_act 211 = .ok (.getfield 54, 3) := by decide +kernel
theorem dX10_act_214 : decode cX10_act 214 = .ok (.iload 6, 2) := by decide +kernel
theorem dX10_act_216 : decode cX10_act 216 = .ok (.iload 7, 2) := by decide +kernel
theorem dX10_act_218 : decode cX10_act 218 = .ok (.iload 8, 2) := by decide +kernel
theorem dX10_act_220 : decode cX10_act 220 = .ok (.iload 5, 2) := by decide +kernel
theorem dX10_act_222 : decode cX10_act 222 = .ok (.iconst 2, 1) := by decide +kernel
theorem dX10_act_223 : decode cX10_act 223 = .ok (.if_icmp .ne 7, 3) := by decide +kernel
theorem dX10_act_226 : decode cX10_act 226 = .ok (.iconst 1, 1) := by decide +kernel
theorem dX10_act_227 : decode cX10_act 227 = .ok (.goto 4, 3) := by decide +kernel
theorem dX10_act_230 : decode cX10_act 230 = .ok (.iconst 0, 1) := by decide +kernel
theorem dX10_act_231 : decode cX10_act 231 = .ok (.aload_n 0, 1) := by decide +kernel
theorem dX10_act_232 : decode cX10_act 232 = .ok (.getfield 41, 3) := by decide +kernel
theorem dX10_act_235 : decode cX10_act 235 = .ok (.getfield 113, 3) := by decide +kernel
theorem dX10_act_238 : decode cX10_act 238 = .ok (.aload_n 0, 1) := by decide +kernel
theorem dX10_act_239 : decode cX10_act 239 = .ok (.getfield 41, 3) := by decide +kernel
theorem dX10_act_242 : decode cX10_act 242 = .ok (.getfield 117, 3) := by decide +kernel
theorem dX10_act_245 : decode cX10_act 245 = .ok (.invokevirtual 236, 3) := by decide +kernel
theorem dX10_act_248 : decode cX10_act 248 = .ok (.goto 172, 3) := by decide +kernel
theorem dX10_act_251 : decode cX10_act 251 = .ok (.aload_n 3, 1) := by decide +kernel
theorem dX10_act_252 : decode cX10_act 252 = .ok (.iload 9, 2) := by decide +kernel
theorem dX10_act_254 : decode cX10_act 254 = .ok (.aload_n 0, 1) := by decide +kernel
theorem dX10_act_255 : decode cX10_act 255 = .ok (.getfield 41, 3) := by decide +kernel
theorem dX10_act_258 : decode cX10_act 258 = .ok (.invokevirtual 120, 3) := by decide +kernel
theorem dX10_act_261 : decode cX10_act 261 = .ok (.aload_n 3, 1) := by decide +kernel
theorem dX10_act_262 : decode cX10_act 262 = .ok (.iload 10, 2) := by decide +kernel
theorem dX10_act_264 : decode cX10_act 264 = .ok (.aload_n 0, 1) := by decide +kernel
theorem dX10_act_265 : decode cX10_act 265 = .ok (.getfield 41, 3) := by decide +kernel
theorem dX10_act_268 : decode cX10_act 268 = .ok (.invokevirtual 120, 3) := by decide +kernel
theorem dX10_act_271 : decode cX10_act 271 = .ok (.goto 149, 3) := by decide +kernel
theorem dX10_act_274 : decode cX10_act 274 = .ok (.aload_n 0, 1) := by decide +kernel
theorem dX10_act_275 : decode cX10_act 275 = .ok (.aload_n 1, 1) := by decide +kernel
theorem dX10_act_276 : decode cX10_act 276 = .ok (.iload 4, 2) := by decide +kernel
theorem dX10_act_278 : decode cX10_act 278 = .ok (.aload_n 0, 1) := by decide +kernel
theorem dX10_act_279 : decode cX10_act 279 = .ok (.iload 4, 2) := by decide +kernel
theorem dX10_act_281 : decode cX10_act 281 = .ok (.invokevirtual 240, 3) := by decide +kernel
theorem dX10_act_284 : decode cX10_act 284 = .ok (.invokevirtual 243, 3) := by decide +kernel
theorem dX10_act_287 : decode cX10_act 287 = .ok (.goto 133, 3) := by decide +kernel
theorem dX10_act_290 : decode cX10_act 290 = .ok (.aload_n 0, 1) := by decide +kernel
theorem dX10_act_291 : decode cX10_act 291 = .ok (.aload_n 1, 1) := by decide +kernel
theorem dX10_act_292 : decode cX10_act 292 = .ok (.iload 6, 2) := by decide +kernel
theorem dX10_act_294 : decode cX10_act 294 = .ok (.iload 9, 2) := by decide +kernel
theorem dX10_act_296 : decode cX10_act 296 = .ok (.invokevirtual 247, 3) := by decide +kernel
theorem dX10_act_299 : decode cX10_act 299 = .ok (.goto 121, 3) := by decide +kernel
theorem dX10_act_302 : decode cX10_act 302 = .ok (.aload_n 0, 1) := by decide +kernel
theorem dX10_act_303 : decode cX10_act 303 = .ok (.aload_n 1, 1) := by decide +kernel
theorem dX10_act_304 : decode cX10_act 304 = .ok (.aload_n 0, 1) := by decide +kernel
theorem dX10_act_305 : decode cX10_act 305 = .ok (.getfield 25, 3) := by decide +kernel
theorem dX10_act_308 : decode cX10_act 308 = .ok (.iload 6, 2) := by decide +kernel
theorem dX10_act_310 : decode cX10_act 310 = .ok (.iaload, 1) := by decide +kernel
theorem dX10_act_311 : decode cX10_act 311 = .ok (.iload 7, 2) := by decide +kernel
theorem dX10_act_313 : decode cX10_act 313 = .ok (.iload 8, 2) := by decide +kernel
theorem dX10_act_315 : decode cX10_act 315 = .ok (.invokevirtual 250, 3) := by decide +kernel
theorem dX10_act_318 : decode cX10_act 318 = .ok (.goto 102, 3) := by decide +kernel
theorem dX10_act_321 : decode cX10_act 321 = .ok (.aload_n 1, 1) := by decide +kernel
theorem dX10_act_322 : decode cX10_act 322 = .ok (.getfield 96, 3) := by decide +kernel
theorem dX10_act_325 : decode cX10_act 325 = .ok (.iload 9, 2) := by decide +kernel
theorem dX10_act_327 : decode cX10_act 327 = .ok (.aload_n 0, 1) := by decide +kernel
theorem dX10_act_328 : decode cX10_act 328 = .ok (.getfield 41, 3) := by decide +kernel
theorem dX10_act_331 : decode cX10_act 331 = .ok (.invokevirtual 120, 3) := by decide +kernel
theorem dX10_act_334 : decode cX10_act 334 = .ok (.goto 86, 3) := by decide +kernel
theorem dX10_act_337 : decode cX10_act 337 = .ok (.aload_n 3, 1) := by decide +kernel
theorem dX10_act_338 : decode cX10_act 338 = .ok (.iload 9, 2) := by decide +kernel
theorem dX10_act_340 : decode cX10_act 340 = .ok (.aload_n 0, 1) := by decide +kernel
theorem dX10_act_341 : decode cX10_act 341 = .ok (.getfield 41, 3) := by decide +kernel
theorem dX10_act_344 : decode cX10_act 344 = .ok (.invokevirtual 120, 3) := by decide +kernel
theorem dX10_act_347 : decode cX10_act 347 = .ok (.aload_n 1, 1) := by decide +kernel
theorem dX10_act_348 : decode cX10_act 348 = .ok (.getfield 96, 3) := by decide +kernel
theorem dX10_act_351 : decode cX10_act 351 = .ok (.iload 4, 2) := by decide +kernel
theorem dX10_act_353 : decode cX10_act 353 = .ok (.aload_n 0, 1) := by decide +kernel
theorem dX10_act_354 : decode cX10_act 354 = .ok (.getfield 41, 3) := by decide +kernel
theorem dX10_act_357 : decode cX10_act 357 = .ok (.invokevirtual 120, 3) := by decide +kernel
theorem dX10_act_360 : decode cX10_act 360 = .ok (.goto 60, 3) := by decide +kernel
theorem dX10_act_363 : decode cX10_act 363 = .ok (.aload_n 3, 1) := by decide +kernel
theorem dX10_act_364 : decode cX10_act 364 = .ok (.aload_n 0, 1) := by decide +kernel
theorem dX10_act_365 : decode cX10_act 365 = .ok (.getfield 21, 3) := by decide +kernel
theorem dX10_act_368 : decode cX10_act 368 = .ok (.iload 7, 2) := by decide +kernel
theorem dX10_act_370 : decode cX10_act 370 = .ok (.iload 8, 2) := by decide +kernel
theorem dX10_act_372 : decode cX10_act 372 = .ok (.invokevirtual 254, 3) := by decide +kernel
theorem dX10_act_375 : decode cX10_act 375 = .ok (.ifCond .eq 8, 3) := by decide +kernel
theorem dX10_act_378 : decode cX10_act 378 = .ok (.iload 9, 2) := by decide +kernel
theorem dX10_act_380 : decode cX10_act 380 = .ok (.goto 5, 3) := by decide +kernel
theorem dX10_act_383 : decode cX10_act 383 = .ok (.iload 10, 2) := by decide +kernel
theorem dX10_act_385 : decode cX10_act 385 = .ok (.aload_n 0, 1) := by decide +kernel
theorem dX10_act_386 : decode cX10_act 386 = .ok (.getfield 41, 3) := by decide +kernel
theorem dX10_act_389 : decode cX10_act 389 = .ok (.invokevirtual 120, 3) := by decide +kernel
theorem dX10_act_392 : decode cX10_act 392 = .ok (.goto 28, 3) := by decide +kernel
theorem dX10_act_395 : decode cX10_act 395 = .ok (.aload_n 0, 1) := by decide +kernel
theorem dX10_act_396 : decode cX10_act 396 = .ok (.aload_n 1, 1) := by decide +kernel
theorem dX10_act_397 : decode cX10_act 397 = .ok (.iload 9, 2) := by decide +kernel
theorem dX10_act_399 : decode cX10_act 399 = .ok (.iload 10, 2) := by decide +kernel
theorem dX10_act_401 : decode cX10_act 401 = .ok (.invokevirtual 258, 3) := by decide +kernel
theorem dX10_act_404 : decode cX10_act 404 = .ok (.goto 16, 3) := by decide +kernel
theorem dX10_act_407 : decode cX10_act 407 = .ok (.aload_n 1, 1) := by decide +kernel
theorem dX10_act_408 : decode cX10_act 408 = .ok (.getfield 127, 3) := by decide +kernel
theorem dX10_act_411 : decode cX10_act 411 = .ok (.iload 4, 2) := by decide +kernel
theorem dX10_act_413 : decode cX10_act 413 = .ok (.aload_n 0, 1) := by decide +kernel
theorem dX10_act_414 : decode cX10_act 414 = .ok (.getfield 41, 3) := by decide +kernel
theorem dX10_act_417 : decode cX10_act 417 = .ok (.invokevirtual 120, 3) := by decide +kernel
theorem dX10_act_420 : decode cX10_act 420 = .ok (.return_, 1) := by decide +kernel
theorem dX10_conceal_0 : decode cX10_conceal 0 = .ok (.aload_n 0, 1) := by decide +kernel
theorem dX10_conceal_1 : decode cX10_conceal 1 = .ok (.getfield 12, 3) := by decide +kernel
theorem dX10_conceal_4 : decode cX10_conceal 4 = .ok (.invokevirtual 261, 3) := by decide +kernel
theorem dX10_conceal_7 : decode cX10_conceal 7 = .ok (.istore 4, 2) := by decide +kernel
theorem dX10_conceal_9 : decode cX10_conceal 9 = .ok (.iload 4, 2) := by decide +kernel
theorem dX10_conceal_11 : decode cX10_conceal 11 = .ok (.iconst (-1), 1) := by decide +kernel
theorem dX10_conceal_12 : decode cX10_conceal 12 = .ok (.if_icmp .eq 12, 3) := by decide +kernel
theorem dX10_conceal_15 : decode cX10_conceal 15 = .ok (.iload_n 2, 1) := by decide +kernel
theorem dX10_conceal_16 : decode cX10_conceal 16 = .ok (.ifCond .lt 8, 3) := by decide +kernel
theorem dX10_conceal_19 : decode cX10_conceal 19 = .ok (.iload_n 2, 1) := by decide +kernel
theorem dX10_conceal_20 : decode cX10_conceal 20 = .ok (.iconst 4, 1) := by decide +kernel
theorem dX10_conceal_21 : decode cX10_conceal 21 = .ok (.if_icmp .lt 4, 3) := by decide +kernel
theorem dX10_conceal_24 : decode cX10_conceal 24 = .ok (.return_, 1) := by decide +kernel
theorem dX10_conceal_25 : decode cX10_conceal 25 = .ok (.aload_n 0, 1) := by decide +kernel
theorem dX10_conceal_26 : decode cX10_conceal 26 = .ok (.getfield 41, 3) := by decide +kernel
theorem dX10_conceal_29 : decode cX10_conceal 29 = .ok (.getfield 265, 3) := by decide +kernel
theorem dX10_conceal_32 : decode cX10_conceal 32 = .ok (.iload_n 2, 1) := by decide +kernel
theorem dX10_conceal_33 : decode cX10_conceal 33 = .ok (.sipush 400, 3) := by decide +kernel
theorem dX10_conceal_36 : decode cX10_conceal 36 = .ok (.iload 4, 2) := by decide +kernel
theorem dX10_conceal_38 : decode cX10_conceal 38 = .ok (.iadd, 1) := by decide +kernel
theorem dX10_conceal_39 : decode cX10_conceal 39 = .ok (.iastore, 1) := by decide +kernel
theorem dX10_conceal_40 : decode cX10_conceal 40 = .ok (.aload_n 1, 1) := by decide +kernel
theorem dX10_conceal_41 : decode cX10_conceal 41 = .ok (.getfield 124, 3) := by decide +kernel
theorem dX10_conceal_44 : decode cX10_conceal 44 = .ok (.iload_n 3, 1) := by decide +kernel
theorem dX10_conceal_45 : decode cX10_conceal 45 = .ok (.aload_n 0, 1) := by decide +kernel
theorem dX10_conceal_46 : decode cX10_conceal 46 = .ok (.getfield 41, 3) := by decide +kernel
theorem dX10_conceal_49 : decode cX10_conceal 49 = .ok (.invokevirtual 120, 3) := by decide +kernel
theorem dX10_conceal_52 : decode cX10_conceal 52 = .ok (.return_, 1) := by decide +kernel
theorem dX10_enter_0 : decode cX10_enter 0 = .ok (.iload_n 2, 1) := by decide +kernel
theorem dX10_enter_1 : decode cX10_enter 1 = .ok (.iconst (-1), 1) := by decide +kernel
theorem dX10_enter_2 : decode cX10_enter 2 = .ok (.if_icmp .ne 4, 3) := by decide +kernel
theorem dX10_enter_5 : decode cX10_enter 5 = .ok (.return_, 1) := by decide +kernel
theorem dX10_enter_6 : decode cX10_enter 6 = .ok (.aload_n 0, 1) := by decide +kernel
theorem dX10_enter_7 : decode cX10_enter 7 = .ok (.getfield 41, 3) := by decide +kernel
theorem dX10_enter_10 : decode cX10_enter 10 = .ok (.iload_n 2, 1) := by decide +kernel
theorem dX10_enter_11 : decode cX10_enter 11 = .ok (.iload_n 3, 1) := by decide +kernel
theorem dX10_enter_12 : decode cX10_enter 12 = .ok (.iload 4, 2) := by decide +kernel
theorem dX10_enter_14 : decode cX10_enter 14 = .ok (.invokevirtual 109, 3) := by decide +kernel
theorem dX10_enter_17 : decode cX10_enter 17 = .ok (.aload_n 1, 1) := by decide +kernel
theorem dX10_enter_18 : decode cX10_enter 18 = .ok (.getfield 124, 3) := by decide +kernel
theorem dX10_enter_21 : decode cX10_enter 21 = .ok (.iload_n 2, 1) := by decide +kernel
theorem dX10_enter_22 : decode cX10_enter 22 = .ok (.aload_n 0, 1) := by decide +kernel
theorem dX10_enter_23 : decode cX10_enter 23 = .ok (.getfield 41, 3) := by decide +kernel
theorem dX10_enter_26 : decode cX10_enter 26 = .ok (.invokevirtual 120, 3) := by decide +kernel
theorem dX10_enter_29 : decode cX10_enter 29 = .ok (.return_, 1) := by decide +kernel
theorem dX10_dare_0 : decode cX10_dare 0 = .ok (.aload_n 0, 1) := by decide +kernel
theorem dX10_dare_1 : decode cX10_dare 1 = .ok (.getfield 139, 3) := by decide +kernel
theorem dX10_dare_4 : decode cX10_dare 4 = .ok (.iconst 3, 1) := by decide +kernel
theorem dX10_dare_5 : decode cX10_dare 5 = .ok (.if_icmp .lt 16, 3) := by decide +kernel
theorem dX10_dare_8 : decode cX10_dare 8 = .ok (.aload_n 1, 1) := by decide +kernel
theorem dX10_dare_9 : decode cX10_dare 9 = .ok (.getfield 124, 3) := by decide +kernel
theorem dX10_dare_12 : decode cX10_dare 12 = .ok (.iload_n 3, 1) := by decide +kernel
theorem dX10_dare_13 : decode cX10_dare 13 = .ok (.aload_n 0, 1) := by decide +kernel
theorem dX10_dare_14 : decode cX10_dare 14 = .ok (.getfield 41, 3) := by decide +kernel
theorem dX10_dare_17 : decode cX10_dare 17 = .ok (.invokevirtual 120, 3) := by decide +kernel
theorem dX10_dare_20 : decode cX10_dare 20 = .ok (.return_, 1) := by decide +kernel
theorem dX10_dare_21 : decode cX10_dare 21 = .ok (.aload_n 0, 1) := by decide +kernel
theorem dX10_dare_22 : decode cX10_dare 22 = .ok (.dup, 1) := by decide +kernel
theorem dX10_dare_23 : decode cX10_dare 23 = .ok (.getfield 139, 3) := by decide +kernel
theorem dX10_dare_26 : decode cX10_dare 26 = .ok (.iconst 1, 1) := by decide +kernel
theorem dX10_dare_27 : decode cX10_dare 27 = .ok (.iadd, 1) := by decide +kernel
theorem dX10_dare_28 : decode cX10_dare 28 = .ok (.putfield 139, 3) := by decide +kernel
theorem dX10_dare_31 : decode cX10_dare 31 = .ok (.aload_n 0, 1) := by decide +kernel
theorem dX10_dare_32 : decode cX10_dare 32 = .ok (.getfield 34, 3) := by decide +kernel
theorem dX10_dare_35 : decode cX10_dare 35 = .ok (.aload_n 0, 1) := by decide +kernel
theorem dX10_dare_36 : decode cX10_dare 36 = .ok (.getfield 139, 3) := by decide +kernel
theorem dX10_dare_39 : decode cX10_dare 39 = .ok (.aaload, 1) := by decide +kernel
theorem dX10_dare_40 : decode cX10_dare 40 = .ok (.astore 4, 2) := by decide +kernel
theorem dX10_dare_42 : decode cX10_dare 42 = .ok (.aload 4, 2) := by decide +kernel
theorem dX10_dare_44 : decode cX10_dare 44 = .ok (.invokevirtual 70, 3) := by decide +kernel
theorem dX10_dare_47 : decode cX10_dare 47 = .ok (.aload_n 0, 1) := by decide +kernel
theorem dX10_dare_48 : decode cX10_dare 48 = .ok (.getfield 12, 3) := by decide +kernel
theorem dX10_dare_51 : decode cX10_dare 51 = .ok (.aload 4, 2) := by decide +kernel
theorem dX10_dare_53 : decode cX10_dare 53 = .ok (.invokevirtual 268, 3) := by decide +kernel
theorem dX10_dare_56 : decode cX10_dare 56 = .ok (.aload 4, 2) := by decide +kernel
theorem dX10_dare_58 : decode cX10_dare 58 = .ok (.aload_n 0, 1) := by decide +kernel
theorem dX10_dare_59 : decode cX10_dare 59 = .ok (.getfield 54, 3) := by decide +kernel
theorem dX10_dare_62 : decode cX10_dare 62 = .ok (.getfield 271, 3) := by decide +kernel
theorem dX10_dare_65 : decode cX10_dare 65 = .ok (.putfield 187, 3) := by decide +kernel
theorem dX10_dare_68 : decode cX10_dare 68 = .ok (.aload 4, 2) := by decide +kernel
theorem dX10_dare_70 : decode cX10_dare 70 = .ok (.getfield 194, 3) := by decide +kernel
theorem dX10_dare_73 : decode cX10_dare 73 = .ok (.iconst 0, 1) := by decide +kernel
theorem dX10_dare_74 : decode cX10_dare 74 = .ok (.putfield 106, 3) := by decide +kernel
theorem dX10_dare_77 : decode cX10_dare 77 = .ok (.aload 4, 2) := by decide +kernel
theorem dX10_dare_79 : decode cX10_dare 79 = .ok (.getfield 194, 3) := by decide +kernel
theorem dX10_dare_82 : decode cX10_dare 82 = .ok (.iload_n 3, 1) := by decide +kernel
theorem dX10_dare_83 : decode cX10_dare 83 = .ok (.aload_n 0, 1) := by decide +kernel
theorem dX10_dare_84 : decode cX10_dare 84 = .ok (.getfield 41, 3) := by decide +kernel
theorem dX10_dare_87 : decode cX10_dare 87 = .ok (.invokevirtual 120, 3) := by decide +kernel
theorem dX10_dare_90 : decode cX10_dare 90 = .ok (.aload 4, 2) := by decide +kernel
theorem dX10_dare_92 : decode cX10_dare 92 = .ok (.getfield 124, 3) := by decide +kernel
theorem dX10_dare_95 : decode cX10_dare 95 = .ok (.iload_n 2, 1) := by decide +kernel
theorem dX10_dare_96 : decode cX10_dare 96 = .ok (.aload_n 0, 1) := by decide +kernel
theorem dX10_dare_97 : decode cX10_dare 97 = .ok (.getfield 41, 3) := by decide +kernel
theorem dX10_dare_100 : decode cX10_dare 100 = .ok (.invokevirtual 120, 3) := by decide +kernel
theorem dX10_dare_103 : decode cX10_dare 103 = .ok (.return_, 1) := by decide +kernel
theorem dX10_ask_0 : decode cX10_ask 0 = .ok (.iload_n 3, 1) := by decide +kernel
theorem dX10_ask_1 : decode cX10_ask 1 = .ok (.iconst (-1), 1) := by decide +kernel
theorem dX10_ask_2 : decode cX10_ask 2 = .ok (.if_icmp .ne 16, 3) := by decide +kernel
theorem dX10_ask_5 : decode cX10_ask 5 = .ok (.aload_n 1, 1) := by decide +kernel
theorem dX10_ask_6 : decode cX10_ask 6 = .ok (.getfield 127, 3) := by decide +kernel
theorem dX10_ask_9 : decode cX10_ask 9 = .ok (.iload_n 2, 1) := by decide +kernel
theorem dX10_ask_10 : decode cX10_ask 10 = .ok (.aload_n 0, 1) := by decide +kernel
theorem dX10_ask_11 : decode cX10_ask 11 = .ok (.getfield 41, 3) := by decide +kernel
theorem dX10_ask_14 : decode cX10_ask 14 = .ok (.invokevirtual 120, 3) := by decide +kernel
theorem dX10_ask_17 : decode cX10_ask 17 = .ok (.return_, 1) := by decide +kernel
theorem dX10_ask_18 : decode cX10_ask 18 = .ok (.iload_n 2, 1) := by decide +kernel
theorem dX10_ask_19 : decode cX10_ask 19 = .ok (.istore 4, 2) := by decide +kernel
theorem dX10_ask_21 : decode cX10_ask 21 = .ok (.aload_n 0, 1) := by decide +kernel
theorem dX10_ask_22 : decode cX10_ask 22 = .ok (.getfield 45, 3) := by decide +kernel
theorem dX10_ask_25 : decode cX10_ask 25 = .ok (.getfield 209, 3) := by decide +kernel
theorem dX10_ask_28 : decode cX10_ask 28 = .ok (.iload_n 2, 1) := by decide +kernel
theorem dX10_ask_29 : decode cX10_ask 29 = .ok (.iaload, 1) := by decide +kernel
theorem dX10_ask_30 : decode cX10_ask 30 = .ok (.iconst 5, 1) := by decide +kernel
theorem dX10_ask_31 : decode cX10_ask 31 = .ok (.if_icmp .ne 44, 3) := by decide +kernel
theorem dX10_ask_34 : decode cX10_ask 34 = .ok (.iload_n 3, 1) := by decide +kernel
theorem dX10_ask_35 : decode cX10_ask 35 = .ok (.ifCond .ne 15, 3) := by decide +kernel
theorem dX10_ask_38 : decode cX10_ask 38 = .ok (.aload_n 0, 1) := by decide +kernel
theorem dX10_ask_39 : decode cX10_ask 39 = .ok (.getfield 45, 3) := by decide +kernel
theorem dX10_ask_42 : decode cX10_ask 42 = .ok (.getfield 226, 3) := by decide +kernel
theorem dX10_ask_45 : decode cX10_ask 45 = .ok (.iload_n 2, 1) := by decide +kernel
theorem dX10_ask_46 : decode cX10_ask 46 = .ok (.iaload, 1) := by decide +kernel
theorem dX10_ask_47 : decode cX10_ask 47 = .ok (.goto 12, 3) := by decide +kernel
theorem dX10_ask_50 : decode cX10_ask 50 = .ok (.aload_n 0, 1) := by decide +kernel
theorem dX10_ask_51 : decode cX10_ask 51 = .ok (.getfield 45, 3) := by decide +kernel
theorem dX10_ask_54 : decode cX10_ask 54 = .ok (.getfield 229, 3) := by decide +kernel
theorem dX10_ask_57 : decode cX10_ask 57 = .ok (.iload_n 2, 1) := by decide +kernel
theorem dX10_ask_58 : decode cX10_ask 58 = .ok (.iaload, 1) := by decide +kernel
theorem dX10_ask_59 : decode cX10_ask 59 = .ok (.istore 4, 2) := by decide +kernel
theorem dX10_ask_61 : decode cX10_ask 61 = .ok (.aload_n 0, 1) := by decide +kernel
theorem dX10_ask_62 : decode cX10_ask 62 = .ok (.getfield 29, 3) := by decide +kernel
theorem dX10_ask_65 : decode cX10_ask 65 = .ok (.iconst 2, 1) := by decide +kernel
theorem dX10_ask_66 : decode cX10_ask 66 = .ok (.iload_n 2, 1) := by decide +kernel
theorem dX10_ask_67 : decode cX10_ask 67 = .ok (.imul, 1) := by decide +kernel
theorem dX10_ask_68 : decode cX10_ask 68 = .ok (.iload_n 3, 1) := by decide +kernel
theorem dX10_ask_69 : decode cX10_ask 69 = .ok (.iadd, 1) := by decide +kernel
theorem dX10_ask_70 : decode cX10_ask 70 = .ok (.dup2, 1) := by decide +kernel
theorem dX10_ask_71 : decode cX10_ask 71 = .ok (.iaload, 1) := by decide +kernel
theorem dX10_ask_72 : decode cX10_ask 72 = .ok (.iconst 1, 1) := by decide +kernel
theorem dX10_ask_73 : decode cX10_ask 73 = .ok (.iadd, 1) := by decide +kernel
theorem dX10_ask_74 : decode cX10_ask 74 = .ok (.iastore, 1) := by decide +kernel
theorem dX10_ask_75 : decode cX10_ask 75 = .ok (.aload_n 0, 1) := by decide +kernel
theorem dX10_ask_76 : decode cX10_ask 76 = .ok (.getfield 45, 3) := by decide +kernel
theorem dX10_ask_79 : decode cX10_ask 79 = .ok (.getfield 214, 3) := by decide +kernel
theorem dX10_ask_82 : decode cX10_ask 82 = .ok (.iload 4, 2) := by decide +kernel
theorem dX10_ask_84 : decode cX10_ask 84 = .ok (.iaload, 1) := by decide +kernel
theorem dX10_ask_85 : decode cX10_ask 85 = .ok (.istore 5, 2) := by decide +kernel
theorem dX10_ask_87 : decode cX10_ask 87 = .ok (.iload 5, 2) := by decide +kernel
theorem dX10_ask_89 : decode cX10_ask 89 = .ok (.bipush 10, 2) := by decide +kernel
theorem dX10_ask_91 : decode cX10_ask 91 = .ok (.if_icmp .lt 68, 3) := by decide +kernel
theorem dX10_ask_94 : decode cX10_ask 94 = .ok (.aload_n 0, 1) := by decide +kernel
theorem dX10_ask_95 : decode cX10_ask 95 = .ok (.getfield 41, 3) := by decide +kernel
theorem dX10_ask_98 : decode cX10_ask 98 = .ok (.aload_n 0, 1) := by decide +kernel
theorem dX10_ask_99 : decode cX10_ask 99 = .ok (.getfield 45, 3) := by decide +kernel
theorem dX10_ask_102 : decode cX10_ask 102 = .ok (.getfield 217, 3) := by decide +kernel
theorem dX10_ask_105 : decode cX10_ask 105 = .ok (.iload 4, 2) := by decide +kernel
theorem dX10_ask_107 : decode cX10_ask 107 = .ok (.iaload, 1) := by decide +kernel
theorem dX10_ask_108 : decode cX10_ask 108 = .ok (.invokevirtual 220, 3) := by decide +kernel
theorem dX10_ask_111 : decode cX10_ask 111 = .ok (.istore 6, 2) := by decide +kernel
theorem dX10_ask_113 : decode cX10_ask 113 = .ok (.aload_n 0, 1) := by decide +kernel
theorem dX10_ask_114 : decode cX10_ask 114 = .ok (.getfield 41, 3) := by decide +kernel
theorem dX10_ask_117 : decode cX10_ask 117 = .ok (.aload_n 0, 1) := by decide +kernel
theorem dX10_ask_118 : decode cX10_ask 118 = .ok (.getfield 45, 3) := by decide +kernel
theorem dX10_ask_121 : decode cX10_ask 121 = .ok (.getfield 223, 3) := by decide +kernel
theorem dX10_ask_124 : decode cX10_ask 124 = .ok (.iload 4, 2) := by decide +kernel
theorem dX10_ask_126 : decode cX10_ask 126 = .ok (.iaload, 1) := by decide +kernel
theorem dX10_ask_127 : decode cX10_ask 127 = .ok (.invokevirtual 220, 3) := by decide +kernel
theorem dX10_ask_130 : decode cX10_ask 130 = .ok (.istore 7, 2) := by decide +kernel
theorem dX10_ask_132 : decode cX10_ask 132 = .ok (.aload_n 0, 1) := by decide +kernel
theorem dX10_ask_133 : decode cX10_ask 133 = .ok (.getfield 41, 3) := by decide +kernel
theorem dX10_ask_136 : decode cX10_ask 136 = .ok (.aload_n 0, 1) := by decide +kernel
theorem dX10_ask_137 : decode cX10_ask 137 = .ok (.getfield 12, 3) := by decide +kernel
theorem dX10_ask_140 : decode cX10_ask 140 = .ok (.aload_n 0, 1) := by decide +kernel
theorem dX10_ask_141 : decode cX10_ask 141 = .ok (.getfield 12, 3) := by decide +kernel
theorem dX10_ask_144 : decode cX10_ask 144 = .ok (.iload 5, 2) := by decide +kernel
theorem dX10_ask_146 : decode cX10_ask 146 = .ok (.bipush 10, 2) := by decide +kernel
theorem dX10_ask_148 : decode cX10_ask 148 = .ok (.isub, 1) := by decide +kernel
theorem dX10_ask_149 : decode cX10_ask 149 = .ok (.iload 6, 2) := by decide +kernel
theorem dX10_ask_151 : decode cX10_ask 151 = .ok (.iload 7, 2) := by decide +kernel
theorem dX10_ask_153 : decode cX10_ask 153 = .ok (.invokevirtual 272, 3) := by decide +kernel
theorem dX10_ask_156 : decode cX10_ask 156 = .ok (.invokevirtual 276, 3) := by decide +kernel
theorem dX10_ask_159 : decode cX10_ask 159 = .ok (.aload_n 1, 1) := by decide +kernel
theorem dX10_ask_160 : decode cX10_ask 160 = .ok (.getfield 124, 3) := by decide +kernel
theorem dX10_ask_163 : decode cX10_ask 163 = .ok (.aload_n 0, 1) := by decide +kernel
theorem dX10_ask_164 : decode cX10_ask 164 = .ok (.getfield 45, 3) := by decide +kernel
theorem dX10_ask_167 : decode cX10_ask 167 = .ok (.getfield 226, 3) := by decide +kernel
theorem dX10_ask_170 : decode cX10_ask 170 = .ok (.iload 4, 2) := by decide +kernel
theorem dX10_ask_172 : decode cX10_ask 172 = .ok (.iaload, 1) := by decide +kernel
theorem dX10_ask_173 : decode cX10_ask 173 = .ok (.aload_n 0, 1) := by decide +kernel
theorem dX10_ask_174 : decode cX10_ask 174 = .ok (.getfield 41, 3) := by decide +kernel
theorem dX10_ask_177 : decode cX10_ask 177 = .ok (.invokevirtual 120, 3) := by decide +kernel
theorem dX10_ask_180 : decode cX10_ask 180 = .ok (.return_, 1) := by decide +kernel
theorem dX10_sideOf_0 : decode cX10_sideOf 0 = .ok (.aload_n 0, 1) := by decide +kernel
theorem dX10_sideOf_1 : decode cX10_sideOf 1 = .ok (.getfield 45, 3) := by decide +kernel
theorem dX10_sideOf_4 : decode cX10_sideOf 4 = .ok (.getfield 209, 3) := by decide +kernel
theorem dX10_sideOf_7 : decode cX10_sideOf 7 = .ok (.iload_n 1, 1) := by decide +kernel
theorem dX10_sideOf_8 : decode cX10_sideOf 8 = .ok (.iaload, 1) := by decide +kernel
theorem dX10_sideOf_9 : decode cX10_sideOf 9 = .ok (.iconst 4, 1) := by decide +kernel
theorem dX10_sideOf_10 : decode cX10_sideOf 10 = .ok (.if_icmp .ne 17, 3) := by decide +kernel
theorem dX10_sideOf_13 : decode cX10_sideOf 13 = .ok (.aload_n 0, 1) := by decide +kernel
theorem dX10_sideOf_14 : decode cX10_sideOf 14 = .ok (.iload_n 1, 1) := by decide +kernel
theorem dX10_sideOf_15 : decode cX10_sideOf 15 = .ok (.invokevirtual 280, 3) := by decide +kernel
theorem dX10_sideOf_18 : decode cX10_sideOf 18 = .ok (.ifCond .eq 7, 3) := by decide +kernel
theorem dX10_sideOf_21 : decode cX10_sideOf 21 = .ok (.iconst 0, 1) := by decide +kernel
theorem dX10_sideOf_22 : decode cX10_sideOf 22 = .ok (.goto 4, 3) := by decide +kernel
theorem dX10_sideOf_25 : decode cX10_sideOf 25 = .ok (.iconst (-1), 1) := by decide +kernel
theorem dX10_sideOf_26 : decode cX10_sideOf 26 = .ok (.ireturn, 1) := by decide +kernel
theorem dX10_sideOf_27 : decode cX10_sideOf 27 = .ok (.aload_n 0, 1) := by decide +kernel
theorem dX10_sideOf_28 : decode cX10_sideOf 28 = .ok (.getfield 45, 3) := by decide +kernel
theorem dX10_sideOf_31 : decode cX10_sideOf 31 = .ok (.getfield 209, 3) := by decide +kernel
theorem dX10_sideOf_34 : decode cX10_sideOf 34 = .ok (.iload_n 1, 1) := by decide +kernel
theorem dX10_sideOf_35 : decode cX10_sideOf 35 = .ok (.iaload, 1) := by decide +kernel
theorem dX10_sideOf_36 : decode cX10_sideOf 36 = .ok (.iconst 5, 1) := by decide +kernel
theorem dX10_sideOf_37 : decode cX10_sideOf 37 = .ok (.if_icmp .eq 5, 3) := by decide +kernel
theorem dX10_sideOf_40 : decode cX10_sideOf 40 = .ok (.iconst (-1), 1) := by decide +kernel
theorem dX10_sideOf_41 : decode cX10_sideOf 41 = .ok (.ireturn, 1) := by decide +kernel
theorem dX10_sideOf_42 : decode cX10_sideOf 42 = .ok (.aload_n 0, 1) := by decide +kernel
theorem dX10_sideOf_43 : decode cX10_sideOf 43 = .ok (.aload_n 0, 1) := by decide +kernel
theorem dX10_sideOf_44 : decode cX10_sideOf 44 = .ok (.getfield 45, 3) := by decide +kernel
theorem dX10_sideOf_47 : decode cX10_sideOf 47 = .ok (.getfield 229, 3) := by decide +kernel
theorem dX10_sideOf_50 : decode cX10_sideOf 50 = .ok (.iload_n 1, 1) := by decide +kernel
theorem dX10_sideOf_51 : decode cX10_sideOf 51 = .ok (.iaload, 1) := by decide +kernel
theorem dX10_sideOf_52 : decode cX10_sideOf 52 = .ok (.invokevirtual 280, 3) := by decide +kernel
theorem dX10_sideOf_55 : decode cX10_sideOf 55 = .ok (.istore_n 2, 1) := by decide +kernel
theorem dX10_sideOf_56 : decode cX10_sideOf 56 = .ok (.aload_n 0, 1) := by decide +kernel
theorem dX10_sideOf_57 : decode cX10_sideOf 57 = .ok (.aload_n 0, 1) := by decide +kernel
theorem dX10_sideOf_58 : decode cX10_sideOf 58 = .ok (.getfield 45, 3) := by decide +kernel
theorem dX10_sideOf_61 : decode cX10_sideOf 61 = .ok (.getfield 226, 3) := by decide +kernel
theorem dX10_sideOf_64 : decode cX10_sideOf 64 = .ok (.iload_n 1, 1) := by decide +kernel
theorem dX10_sideOf_65 : decode cX10_sideOf 65 = .ok (.iaload, 1) := by decide +kernel
theorem dX10_sideOf_66 : decode cX10_sideOf 66 = .ok (.invokevirtual 280, 3) := by decide +kernel
theorem dX10_sideOf_69 : decode cX10_sideOf 69 = .ok (.ifCond .ne 13, 3) := by decide +kernel
theorem dX10_sideOf_72 : decode cX10_sideOf 72 = .ok (.iload_n 2, 1) := by decide +kernel
theorem dX10_sideOf_73 : decode cX10_sideOf 73 = .ok (.ifCond .eq 7, 3) := by decide +kernel
theorem dX10_sideOf_76 : decode cX10_sideOf 76 = .ok (.iconst 1, 1) := by decide +kernel
theorem dX10_sideOf_77 : decode cX10_sideOf 77 = .ok (.goto 4, 3) := by decide +kernel
theorem dX10_sideOf_80 : decode cX10_sideOf 80 = .ok (.iconst (-1), 1) := by decide +kernel
theorem dX10_sideOf_81 : decode cX10_sideOf 81 = .ok (.ireturn, 1) := by decide +kernel
theorem dX10_sideOf_82 : decode cX10_sideOf 82 = .ok (.iload_n 2, 1) := by decide +kernel
theorem dX10_sideOf_83 : decode cX10_sideOf 83 = .ok (.ifCond .ne 5, 3) := by decide +kernel
theorem dX10_sideOf_86 : decode cX10_sideOf 86 = .ok (.iconst 0, 1) := by decide +kernel
theorem dX10_sideOf_87 : decode cX10_sideOf 87 = .ok (.ireturn, 1) := by decide +kernel
theorem dX10_sideOf_88 : decode cX10_sideOf 88 = .ok (.aload_n 0, 1) := by decide +kernel
theorem dX10_sideOf_89 : decode cX10_sideOf 89 = .ok (.getfield 45, 3) := by decide +kernel
theorem dX10_sideOf_92 : decode cX10_sideOf 92 = .ok (.getfield 217, 3) := by decide +kernel
theorem dX10_sideOf_95 : decode cX10_sideOf 95 = .ok (.iload_n 1, 1) := by decide +kernel
theorem dX10_sideOf_96 : decode cX10_sideOf 96 = .ok (.iaload, 1) := by decide +kernel
theorem dX10_sideOf_97 : decode cX10_sideOf 97 = .ok (.istore_n 3, 1) := by decide +kernel
theorem dX10_sideOf_98 : decode cX10_sideOf 98 = .ok (.aload_n 0, 1) := by decide +kernel
theorem dX10_sideOf_99 : decode cX10_sideOf 99 = .ok (.getfield 45, 3) := by decide +kernel
theorem dX10_sideOf_102 : decode cX10_sideOf 102 = .ok (.getfield 223, 3) := by decide +kernel
theorem dX10_sideOf_105 : decode cX10_sideOf 105 = .ok (.iload_n 1, 1) := by decide +kernel
theorem dX10_sideOf_106 : decode cX10_sideOf 106 = .ok (.iaload, 1) := by decide +kernel
theorem dX10_sideOf_107 : decode cX10_sideOf 107 = .ok (.istore 4, 2) := by decide +kernel
theorem dX10_sideOf_109 : decode cX10_sideOf 109 = .ok (.iload_n 3, 1) := by decide +kernel
theorem dX10_sideOf_110 : decode cX10_sideOf 110 = .ok (.iload 4, 2) := by decide +kernel
theorem dX10_sideOf_112 : decode cX10_sideOf 112 = .ok (.if_icmp .eq 15, 3) := by decide +kernel
theorem dX10_sideOf_115 : decode cX10_sideOf 115 = .ok (.iload_n 3, 1) := by decide +kernel
theorem dX10_sideOf_116 : decode cX10_sideOf 116 = .ok (.iload 4, 2) := by decide +kernel
theorem dX10_sideOf_118 : decode cX10_sideOf 118 = .ok (.if_icmp .le 7, 3) := by decide +kernel
theorem dX10_sideOf_121 : decode cX10_sideOf 121 = .ok (.iconst 0, 1) := by decide +kernel
theorem dX10_sideOf_122 : decode cX10_sideOf 122 = .ok (.goto 4, 3) := by decide +kernel
theorem dX10_sideOf_125 : decode cX10_sideOf 125 = .ok (.iconst 1, 1) := by decide +kernel
theorem dX10_sideOf_126 : decode cX10_sideOf 126 = .ok (.ireturn, 1) := by decide +kernel
theorem dX10_sideOf_127 : decode cX10_sideOf 127 = .ok (.aload_n 0, 1) := by decide +kernel
theorem dX10_sideOf_128 : decode cX10_sideOf 128 = .ok (.getfield 29, 3) := by decide +kernel
theorem dX10_sideOf_131 : decode cX10_sideOf 131 = .ok (.iconst 2, 1) := by decide +kernel
theorem dX10_sideOf_132 : decode cX10_sideOf 132 = .ok (.iload_n 1, 1) := by decide +kernel
theorem dX10_sideOf_133 : decode cX10_sideOf 133 = .ok (.imul, 1) := by decide +kernel
theorem dX10_sideOf_134 : decode cX10_sideOf 134 = .ok (.iconst 1, 1) := by decide +kernel
theorem dX10_sideOf_135 : decode cX10_sideOf 135 = .ok (.iadd, 1) := by decide +kernel
theorem dX10_sideOf_136 : decode cX10_sideOf 136 = .ok (.iaload, 1) := by decide +kernel
theorem dX10_sideOf_137 : decode cX10_sideOf 137 = .ok (.aload_n 0, 1) := by decide +kernel
theorem dX10_sideOf_138 : decode cX10_sideOf 138 = .ok (.getfield 29, 3) := by decide +kernel
theorem dX10_sideOf_141 : decode cX10_sideOf 141 = .ok (.iconst 2, 1) := by decide +kernel
theorem dX10_sideOf_142 : decode cX10_sideOf 142 = .ok (.iload_n 1, 1) := by decide +kernel
theorem dX10_sideOf_143 : decode cX10_sideOf 143 = .ok (.imul, 1) := by decide +kernel
theorem dX10_sideOf_144 : decode cX10_sideOf 144 = .ok (.iaload, 1) := by decide +kernel
theorem dX10_sideOf_145 : decode cX10_sideOf 145 = .ok (.if_icmp .ge 7, 3) := by decide +kernel
theorem dX10_sideOf_148 : decode cX10_sideOf 148 = .ok (.iconst 1, 1) := by decide +kernel
theorem dX10_sideOf_149 : decode cX10_sideOf 149 = .ok (.goto 4, 3) := by decide +kernel
theorem dX10_sideOf_152 : decode cX10_sideOf 152 = .ok (.iconst 0, 1) := by decide +kernel
theorem dX10_sideOf_153 : decode cX10_sideOf 153 = .ok (.ireturn, 1) := by decide +kernel
theorem dX10_isEntailed_0 : decode cX10_isEntailed 0 = .ok (.aload_n 0, 1) := by decide +kernel
theorem dX10_isEntailed_1 : decode cX10_isEntailed 1 = .ok (.getfield 12, 3) := by decide +kernel
theorem dX10_isEntailed_4 : decode cX10_isEntailed 4 = .ok (.aload_n 0, 1) := by decide +kernel
theorem dX10_isEntailed_5 : decode cX10_isEntailed 5 = .ok (.getfield 45, 3) := by decide +kernel
theorem dX10_isEntailed_8 : decode cX10_isEntailed 8 = .ok (.getfield 214, 3) := by decide +kernel
theorem dX10_isEntailed_11 : decode cX10_isEntailed 11 = .ok (.iload_n 1, 1) := by decide +kernel
theorem dX10_isEntailed_12 : decode cX10_isEntailed 12 = .ok (.iaload, 1) := by decide +kernel
theorem dX10_isEntailed_13 : decode cX10_isEntailed 13 = .ok (.aload_n 0, 1) := by decide +kernel
theorem dX10_isEntailed_14 : decode cX10_isEntailed 14 = .ok (.getfield 41, 3) := by decide +kernel
theorem dX10_isEntailed_17 : decode cX10_isEntailed 17 = .ok (.aload_n 0, 1) := by decide +kernel
theorem dX10_isEntailed_18 : decode cX10_isEntailed 18 = .ok (.getfield 45, 3) := by decide +kernel
theorem dX10_isEntailed_21 : decode cX10_isEntailed 21 = .ok (.getfield 217, 3) := by decide +kernel
theorem dX10_isEntailed_24 : decode cX10_isEntailed 24 = .ok (.iload_n 1, 1) := by decide +kernel
theorem dX10_isEntailed_25 : decode cX10_isEntailed 25 = .ok (.iaload, 1) := by decide +kernel
theorem dX10_isEntailed_26 : decode cX10_isEntailed 26 = .ok (.invokevirtual 220, 3) := by decide +kernel
theorem dX10_isEntailed_29 : decode cX10_isEntailed 29 = .ok (.aload_n 0, 1) := by decide +kernel
theorem dX10_isEntailed_30 : decode cX10_isEntailed 30 = .ok (.getfield 41, 3) := by decide +kernel
theorem dX10_isEntailed_33 : decode cX10_isEntailed 33 = .ok (.aload_n 0, 1) := by decide +kernel
theorem dX10_isEntailed_34 : decode cX10_isEntailed 34 = .ok (.getfield 45, 3) := by decide +kernel
theorem dX10_isEntailed_37 : decode cX10_isEntailed 37 = .ok (.getfield 223, 3) := by decide +kernel
theorem dX10_isEntailed_40 : decode cX10_isEntailed 40 = .ok (.iload_n 1, 1) := by decide +kernel
theorem dX10_isEntailed_41 : decode cX10_isEntailed 41 = .ok (.iaload, 1) := by decide +kernel
theorem dX10_isEntailed_42 : decode cX10_isEntailed 42 = .ok (.invokevirtual 220, 3) := by decide +kernel
theorem dX10_isEntailed_45 : decode cX10_isEntailed 45 = .ok (.invokevirtual 284, 3) := by decide +kernel
theorem dX10_isEntailed_48 : decode cX10_isEntailed 48 = .ok (.ireturn, 1) := by decide +kernel
theorem dX10_goOn_0 : decode cX10_goOn 0 = .ok (.aload_n 1, 1) := by decide +kernel
theorem dX10_goOn_1 : decode cX10_goOn 1 = .ok (.getfield 127, 3) := by decide +kernel
theorem dX10_goOn_4 : decode cX10_goOn 4 = .ok (.astore_n 2, 1) := by decide +kernel
theorem dX10_goOn_5 : decode cX10_goOn 5 = .ok (.iconst 0, 1) := by decide +kernel
theorem dX10_goOn_6 : decode cX10_goOn 6 = .ok (.istore_n 3, 1) := by decide +kernel
theorem dX10_goOn_7 : decode cX10_goOn 7 = .ok (.aload_n 2, 1) := by decide +kernel
theorem dX10_goOn_8 : decode cX10_goOn 8 = .ok (.getfield 106, 3) := by decide +kernel
theorem dX10_goOn_11 : decode cX10_goOn 11 = .ok (.istore 4, 2) := by decide +kernel
theorem dX10_goOn_13 : decode cX10_goOn 13 = .ok (.iload 4, 2) := by decide +kernel
theorem dX10_goOn_15 : decode cX10_goOn 15 = .ok (.ifCond .le 62, 3) := by decide +kernel
theorem dX10_goOn_18 : decode cX10_goOn 18 = .ok (.aload_n 2, 1) := by decide +kernel
theorem dX10_goOn_19 : decode cX10_goOn 19 = .ok (.iload_n 3, 1) := by decide +kernel
theorem dX10_goOn_20 : decode cX10_goOn 20 = .ok (.aload_n 0, 1) := by decide +kernel
theorem dX10_goOn_21 : decode cX10_goOn 21 = .ok (.getfield 41, 3) := by decide +kernel
theorem dX10_goOn_24 : decode cX10_goOn 24 = .ok (.invokevirtual 197, 3) := by decide +kernel
theorem dX10_goOn_27 : decode cX10_goOn 27 = .ok (.aload_n 0, 1) := by decide +kernel
theorem dX10_goOn_28 : decode cX10_goOn 28 = .ok (.aload_n 0, 1) := by decide +kernel
theorem dX10_goOn_29 : decode cX10_goOn 29 = .ok (.getfield 41, 3) := by decide +kernel
theorem dX10_goOn_32 : decode cX10_goOn 32 = .ok (.getfield 200, 3) := by decide +kernel
theorem dX10_goOn_35 : decode cX10_goOn 35 = .ok (.invokevirtual 240, 3) := by decide +kernel
theorem dX10_goOn_38 : decode cX10_goOn 38 = .ok (.iconst (-1), 1) := by decide +kernel
theorem dX10_goOn_39 : decode cX10_goOn 39 = .ok (.if_icmp .ne 9, 3) := by decide +kernel
theorem dX10_goOn_42 : decode cX10_goOn 42 = .ok (.iinc 3 1, 3) := by decide +kernel
theorem dX10_goOn_45 : decode cX10_goOn 45 = .ok (.goto 26, 3) := by decide +kernel
theorem dX10_goOn_48 : decode cX10_goOn 48 = .ok (.aload_n 1, 1) := by decide +kernel
theorem dX10_goOn_49 : decode cX10_goOn 49 = .ok (.getfield 124, 3) := by decide +kernel
theorem dX10_goOn_52 : decode cX10_goOn 52 = .ok (.aload_n 0, 1) := by decide +kernel
theorem dX10_goOn_53 : decode cX10_goOn 53 = .ok (.getfield 41, 3) := by decide +kernel
theorem dX10_goOn_56 : decode cX10_goOn 56 = .ok (.getfield 200, 3) := by decide +kernel
theorem dX10_goOn_59 : decode cX10_goOn 59 = .ok (.aload_n 0, 1) := by decide +kernel
theorem dX10_goOn_60 : decode cX10_goOn 60 = .ok (.getfield 41, 3) := by decide +kernel
theorem dX10_goOn_63 : decode cX10_goOn 63 = .ok (.invokevirtual 120, 3) := by decide +kernel
theorem dX10_goOn_66 : decode cX10_goOn 66 = .ok (.aload_n 2, 1) := by decide +kernel
theorem dX10_goOn_67 : decode cX10_goOn 67 = .ok (.iload_n 3, 1) := by decide +kernel
theorem dX10_goOn_68 : decode cX10_goOn 68 = .ok (.invokevirtual 203, 3) := by decide +kernel
theorem dX10_goOn_71 : decode cX10_goOn 71 = .ok (.iinc 4 (-1), 3) := by decide +kernel
theorem dX10_goOn_74 : decode cX10_goOn 74 = .ok (.goto (-61), 3) := by decide +kernel
theorem dX10_goOn_77 : decode cX10_goOn 77 = .ok (.aload_n 1, 1) := by decide +kernel
theorem dX10_goOn_78 : decode cX10_goOn 78 = .ok (.getfield 124, 3) := by decide +kernel
theorem dX10_goOn_81 : decode cX10_goOn 81 = .ok (.getfield 106, 3) := by decide +kernel
theorem dX10_goOn_84 : decode cX10_goOn 84 = .ok (.ifCond .le 7, 3) := by decide +kernel
theorem dX10_goOn_87 : decode cX10_goOn 87 = .ok (.iconst 1, 1) := by decide +kernel
theorem dX10_goOn_88 : decode cX10_goOn 88 = .ok (.goto 4, 3) := by decide +kernel
theorem dX10_goOn_91 : decode cX10_goOn 91 = .ok (.iconst 0, 1) := by decide +kernel
theorem dX10_goOn_92 : decode cX10_goOn 92 = .ok (.ireturn, 1) := by decide +kernel
theorem dX10_assume_0 : decode cX10_assume 0 = .ok (.aload_n 1, 1) := by decide +kernel
theorem dX10_assume_1 : decode cX10_assume 1 = .ok (.getfield 127, 3) := by decide +kernel
theorem dX10_assume_4 : decode cX10_assume 4 = .ok (.astore_n 2, 1) := by decide +kernel
theorem dX10_assume_5 : decode cX10_assume 5 = .ok (.iconst 0, 1) := by decide +kernel
theorem dX10_assume_6 : decode cX10_assume 6 = .ok (.istore_n 3, 1) := by decide +kernel
theorem dX10_assume_7 : decode cX10_assume 7 = .ok (.iload_n 3, 1) := by decide +kernel
theorem dX10_assume_8 : decode cX10_assume 8 = .ok (.aload_n 2, 1) := by decide +kernel
theorem dX10_assume_9 : decode cX10_assume 9 = .ok (.getfield 106, 3) := by decide +kernel
theorem dX10_assume_12 : decode cX10_assume 12 = .ok (.if_icmp .ge 103, 3) := by decide +kernel
theorem dX10_assume_15 : decode cX10_assume 15 = .ok (.aload_n 2, 1) := by decide +kernel
theorem dX10_assume_16 : decode cX10_assume 16 = .ok (.iload_n 3, 1) := by decide +kernel
theorem dX10_assume_17 : decode cX10_assume 17 = .ok (.aload_n 0, 1) := by decide +kernel
theorem dX10_assume_18 : decode cX10_assume 18 = .ok (.getfield 41, 3) := by decide +kernel
theorem dX10_assume_21 : decode cX10_assume 21 = .ok (.invokevirtual 197, 3) := by decide +kernel
theorem dX10_assume_24 : decode cX10_assume 24 = .ok (.aload_n 0, 1) := by decide +kernel
theorem dX10_assume_25 : decode cX10_assume 25 = .ok (.getfield 45, 3) := by decide +kernel
theorem dX10_assume_28 : decode cX10_assume 28 = .ok (.getfield 209, 3) := by decide +kernel
theorem dX10_assume_31 : decode cX10_assume 31 = .ok (.aload_n 0, 1) := by decide +kernel
theorem dX10_assume_32 : decode cX10_assume 32 = .ok (.getfield 41, 3) := by decide +kernel
theorem dX10_assume_35 : decode cX10_assume 35 = .ok (.getfield 200, 3) := by decide +kernel
theorem dX10_assume_38 : decode cX10_assume 38 = .ok (.iaload, 1) := by decide +kernel
theorem dX10_assume_39 : decode cX10_assume 39 = .ok (.bipush 11, 2) := by decide +kernel
theorem dX10_assume_41 : decode cX10_assume 41 = .ok (.if_icmp .ne 68, 3) := by decide +kernel
theorem dX10_assume_44 : decode cX10_assume 44 = .ok (.aload_n 0, 1) := by decide +kernel
theorem dX10_assume_45 : decode cX10_assume 45 = .ok (.aload_n 0, 1) := by decide +kernel
theorem dX10_assume_46 : decode cX10_assume 46 = .ok (.getfield 41, 3) := by decide +kernel
theorem dX10_assume_49 : decode cX10_assume 49 = .ok (.getfield 200, 3) := by decide +kernel
theorem dX10_assume_52 : decode cX10_assume 52 = .ok (.invokevirtual 280, 3) := by decide +kernel
theorem dX10_assume_55 : decode cX10_assume 55 = .ok (.ifCond .ne 54, 3) := by decide +kernel
theorem dX10_assume_58 : decode cX10_assume 58 = .ok (.aload_n 1, 1) := by decide +kernel
theorem dX10_assume_59 : decode cX10_assume 59 = .ok (.getfield 130, 3) := by decide +kernel
theorem dX10_assume_62 : decode cX10_assume 62 = .ok (.aload_n 0, 1) := by decide +kernel
theorem dX10_assume_63 : decode cX10_assume 63 = .ok (.getfield 41, 3) := by decide +kernel
theorem dX10_assume_66 : decode cX10_assume 66 = .ok (.getfield 200, 3) := by decide +kernel
theorem dX10_assume_69 : decode cX10_assume 69 = .ok (.aload_n 0, 1) := by decide +kernel
theorem dX10_assume_70 : decode cX10_assume 70 = .ok (.getfield 41, 3) := by decide +kernel
theorem dX10_assume_73 : decode cX10_assume 73 = .ok (.invokevirtual 120, 3) := by decide +kernel
theorem dX10_assume_76 : decode cX10_assume 76 = .ok (.aload_n 1, 1) := by decide +kernel
theorem dX10_assume_77 : decode cX10_assume 77 = .ok (.getfield 124, 3) := by decide +kernel
theorem dX10_assume_80 : decode cX10_assume 80 = .ok (.aload_n 0, 1) := by decide +kernel
theorem dX10_assume_81 : decode cX10_assume 81 = .ok (.getfield 45, 3) := by decide +kernel
theorem dX10_assume_84 : decode cX10_assume 84 = .ok (.getfield 226, 3) := by decide +kernel
theorem dX10_assume_87 : decode cX10_assume 87 = .ok (.aload_n 0, 1) := by decide +kernel
theorem dX10_assume_88 : decode cX10_assume 88 = .ok (.getfield 41, 3) := by decide +kernel
theorem dX10_assume_91 : decode cX10_assume 91 = .ok (.getfield 200, 3) := by decide +kernel
theorem dX10_assume_94 : decode cX10_assume 94 = .ok (.iaload, 1) := by decide +kernel
theorem dX10_assume_95 : decode cX10_assume 95 = .ok (.aload_n 0, 1) := by decide +kernel
theorem dX10_assume_96 : decode cX10_assume 96 = .ok (.getfield 41, 3) := by decide +kernel
theorem dX10_assume_99 : decode cX10_assume 99 = .ok (.invokevirtual 120, 3) := by decide +kernel
theorem dX10_assume_102 : decode cX10_assume 102 = .ok (.aload_n 2, 1) := by decide +kernel
theorem dX10_assume_103 : decode cX10_assume 103 = .ok (.iload_n 3, 1) := by decide +kernel
theorem dX10_assume_104 : decode cX10_assume 104 = .ok (.invokevirtual 203, 3) := by decide +kernel
theorem dX10_assume_107 : decode cX10_assume 107 = .ok (.iconst 1, 1) := by decide +kernel
theorem dX10_assume_108 : decode cX10_assume 108 = .ok (.ireturn, 1) := by decide +kernel
theorem dX10_assume_109 : decode cX10_assume 109 = .ok (.iinc 3 1, 3) := by decide +kernel
theorem dX10_assume_112 : decode cX10_assume 112 = .ok (.goto (-105), 3) := by decide +kernel
theorem dX10_assume_115 : decode cX10_assume 115 = .ok (.iconst 0, 1) := by decide +kernel
theorem dX10_assume_116 : decode cX10_assume 116 = .ok (.ireturn, 1) := by decide +kernel
theorem dX10_finish_0 : decode cX10_finish 0 = .ok (.iconst 0, 1) := by decide +kernel
theorem dX10_finish_1 : decode cX10_finish 1 = .ok (.istore_n 2, 1) := by decide +kernel
theorem dX10_finish_2 : decode cX10_finish 2 = .ok (.iload_n 2, 1) := by decide +kernel
theorem dX10_finish_3 : decode cX10_finish 3 = .ok (.aload_n 1, 1) := by decide +kernel
theorem dX10_finish_4 : decode cX10_finish 4 = .ok (.getfield 130, 3) := by decide +kernel
theorem dX10_finish_7 : decode cX10_finish 7 = .ok (.getfield 106, 3) := by decide +kernel
theorem dX10_finish_10 : decode cX10_finish 10 = .ok (.if_icmp .ge 44, 3) := by decide +kernel
theorem dX10_finish_13 : decode cX10_finish 13 = .ok (.aload_n 1, 1) := by decide +kernel
theorem dX10_finish_14 : decode cX10_finish 14 = .ok (.getfield 130, 3) := by decide +kernel
theorem dX10_finish_17 : decode cX10_finish 17 = .ok (.iload_n 2, 1) := by decide +kernel
theorem dX10_finish_18 : decode cX10_finish 18 = .ok (.aload_n 0, 1) := by decide +kernel
theorem dX10_finish_19 : decode cX10_finish 19 = .ok (.getfield 41, 3) := by decide +kernel
theorem dX10_finish_22 : decode cX10_finish 22 = .ok (.invokevirtual 197, 3) := by decide +kernel
theorem dX10_finish_25 : decode cX10_finish 25 = .ok (.aload_n 0, 1) := by decide +kernel
theorem dX10_finish_26 : decode cX10_finish 26 = .ok (.aload_n 0, 1) := by decide +kernel
theorem dX10_finish_27 : decode cX10_finish 27 = .ok (.getfield 41, 3) := by decide +kernel
theorem dX10_finish_30 : decode cX10_finish 30 = .ok (.getfield 200, 3) := by decide +kernel
theorem dX10_finish_33 : decode cX10_finish 33 = .ok (.invokevirtual 280, 3) := by decide +kernel
theorem dX10_finish_36 : decode cX10_finish 36 = .ok (.ifCond .eq 12, 3) := by decide +kernel
theorem dX10_finish_39 : decode cX10_finish 39 = .ok (.aload_n 0, 1) := by decide +kernel
theorem dX10_finish_40 : decode cX10_finish 40 = .ok (.getfield 12, 3) := by decide +kernel
theorem dX10_finish_43 : decode cX10_finish 43 = .ok (.iconst 1, 1) := by decide +kernel
theorem dX10_finish_44 : decode cX10_finish 44 = .ok (.putfield 147, 3) := by decide +kernel
theorem dX10_finish_47 : decode cX10_finish 47 = .ok (.return_, 1) := by decide +kernel
theorem dX10_finish_48 : decode cX10_finish 48 = .ok (.iinc 2 1, 3) := by decide +kernel
theorem dX10_finish_51 : decode cX10_finish 51 = .ok (.goto (-49), 3) := by decide +kernel
theorem dX10_finish_54 : decode cX10_finish 54 = .ok (.iconst 0, 1) := by decide +kernel
theorem dX10_finish_55 : decode cX10_finish 55 = .ok (.istore_n 2, 1) := by decide +kernel
theorem dX10_finish_56 : decode cX10_finish 56 = .ok (.iload_n 2, 1) := by decide +kernel
theorem dX10_finish_57 : decode cX10_finish 57 = .ok (.aload_n 1, 1) := by decide +kernel
theorem dX10_finish_58 : decode cX10_finish 58 = .ok (.getfield 127, 3) := by decide +kernel
theorem dX10_finish_61 : decode cX10_finish 61 = .ok (.getfield 106, 3) := by decide +kernel
theorem dX10_finish_64 : decode cX10_finish 64 = .ok (.if_icmp .ge 81, 3) := by decide +kernel
theorem dX10_finish_67 : decode cX10_finish 67 = .ok (.aload_n 1, 1) := by decide +kernel
theorem dX10_finish_68 : decode cX10_finish 68 = .ok (.getfield 127, 3) := by decide +kernel
theorem dX10_finish_71 : decode cX10_finish 71 = .ok (.iload_n 2, 1) := by decide +kernel
theorem dX10_finish_72 : decode cX10_finish 72 = .ok (.aload_n 0, 1) := by decide +kernel
theorem dX10_finish_73 : decode cX10_finish 73 = .ok (.getfield 41, 3) := by decide +kernel
theorem dX10_finish_76 : decode cX10_finish 76 = .ok (.invokevirtual 197, 3) := by decide +kernel
theorem dX10_finish_79 : decode cX10_finish 79 = .ok (.aload_n 0, 1) := by decide +kernel
theorem dX10_finish_80 : decode cX10_finish 80 = .ok (.getfield 45, 3) := by decide +kernel
theorem dX10_finish_83 : decode cX10_finish 83 = .ok (.getfield 209, 3) := by decide +kernel
theorem dX10_finish_86 : decode cX10_finish 86 = .ok (.aload_n 0, 1) := by decide +kernel
theorem dX10_finish_87 : decode cX10_finish 87 = .ok (.getfield 41, 3) := by decide +kernel
theorem dX10_finish_90 : decode cX10_finish 90 = .ok (.getfield 200, 3) := by decide +kernel
theorem dX10_finish_93 : decode cX10_finish 93 = .ok (.iaload, 1) := by decide +kernel
theorem dX10_finish_94 : decode cX10_finish 94 = .ok (.bipush 10, 2) := by decide +kernel
theorem dX10_finish_96 : decode cX10_finish 96 = .ok (.if_icmp .ne 43, 3) := by decide +kernel
theorem dX10_finish_99 : decode cX10_finish 99 = .ok (.aload_n 0, 1) := by decide +kernel
theorem dX10_finish_100 : decode cX10_finish 100 = .ok (.aload_n 0, 1) := by decide +kernel
theorem dX10_finish_101 : decode cX10_finish 101 = .ok (.getfield 41, 3) := by decide +kernel
theorem dX10_finish_104 : decode cX10_finish 104 = .ok (.getfield 200, 3) := by decide +kernel
theorem dX10_finish_107 : decode cX10_finish 107 = .ok (.invokevirtual 280, 3) := by decide +kernel
theorem dX10_finish_110 : decode cX10_finish 110 = .ok (.ifCond .ne 29, 3) := by decide +kernel
theorem dX10_finish_113 : decode cX10_finish 113 = .ok (.aload_n 1, 1) := by decide +kernel
theorem dX10_finish_114 : decode cX10_finish 114 = .ok (.getfield 96, 3) := by decide +kernel
theorem dX10_finish_117 : decode cX10_finish 117 = .ok (.aload_n 0, 1) := by decide +kernel
theorem dX10_finish_118 : decode cX10_finish 118 = .ok (.getfield 45, 3) := by decide +kernel
theorem dX10_finish_121 : decode cX10_finish 121 = .ok (.getfield 226, 3) := by decide +kernel
theorem dX10_finish_124 : decode cX10_finish 124 = .ok (.aload_n 0, 1) := by decide +kernel
theorem dX10_finish_125 : decode cX10_finish 125 = .ok (.getfield 41, 3) := by decide +kernel
theorem dX10_finish_128 : decode cX10_finish 128 = .ok (.getfield 200, 3) := by decide +kernel
theorem dX10_finish_131 : decode cX10_finish 131 = .ok (.iaload, 1) := by decide +kernel
theorem dX10_finish_132 : decode cX10_finish 132 = .ok (.aload_n 0, 1) := by decide +kernel
theorem dX10_finish_133 : decode cX10_finish 133 = .ok (.getfield 41, 3) := by decide +kernel
theorem dX10_finish_136 : decode cX10_finish 136 = .ok (.invokevirtual 120, 3) := by decide +kernel
theorem dX10_finish_139 : decode cX10_finish 139 = .ok (.iinc 2 1, 3) := by decide +kernel
theorem dX10_finish_142 : decode cX10_finish 142 = .ok (.goto (-86), 3) := by decide +kernel
theorem dX10_finish_145 : decode cX10_finish 145 = .ok (.aload_n 0, 1) := by decide +kernel
theorem dX10_finish_146 : decode cX10_finish 146 = .ok (.getfield 139, 3) := by decide +kernel
theorem dX10_finish_149 : decode cX10_finish 149 = .ok (.ifCond .le 33, 3) := by decide +kernel
theorem dX10_finish_152 : decode cX10_finish 152 = .ok (.aload_n 0, 1) := by decide +kernel
theorem dX10_finish_153 : decode cX10_finish 153 = .ok (.dup, 1) := by decide +kernel
theorem dX10_finish_154 : decode cX10_finish 154 = .ok (.getfield 139, 3) := by decide +kernel
theorem dX10_finish_157 : decode cX10_finish 157 = .ok (.iconst 1, 1) := by decide +kernel
theorem dX10_finish_158 : decode cX10_finish 158 = .ok (.isub, 1) := by decide +kernel
theorem dX10_finish_159 : decode cX10_finish 159 = .ok (.putfield 139, 3) := by decide +kernel
theorem dX10_finish_162 : decode cX10_finish 162 = .ok (.aload_n 0, 1) := by decide +kernel
theorem dX10_finish_163 : decode cX10_finish 163 = .ok (.getfield 34, 3) := by decide +kernel
theorem dX10_finish_166 : decode cX10_finish 166 = .ok (.aload_n 0, 1) := by decide +kernel
theorem dX10_finish_167 : decode cX10_finish 167 = .ok (.getfield 139, 3) := by decide +kernel
theorem dX10_finish_170 : decode cX10_finish 170 = .ok (.aaload, 1) := by decide +kernel
theorem dX10_finish_171 : decode cX10_finish 171 = .ok (.getfield 96, 3) := by decide +kernel
theorem dX10_finish_174 : decode cX10_finish 174 = .ok (.aload_n 1, 1) := by decide +kernel
theorem dX10_finish_175 : decode cX10_finish 175 = .ok (.getfield 96, 3) := by decide +kernel
theorem dX10_finish_178 : decode cX10_finish 178 = .ok (.invokevirtual 100, 3) := by decide +kernel
theorem dX10_finish_181 : decode cX10_finish 181 = .ok (.return_, 1) := by decide +kernel
theorem dX10_finish_182 : decode cX10_finish 182 = .ok (.aload_n 0, 1) := by decide +kernel
theorem dX10_finish_183 : decode cX10_finish 183 = .ok (.getfield 12, 3) := by decide +kernel
theorem dX10_finish_186 : decode cX10_finish 186 = .ok (.invokevirtual 287, 3) := by decide +kernel
theorem dX10_finish_189 : decode cX10_finish 189 = .ok (.aload_n 0, 1) := by decide +kernel
theorem dX10_finish_190 : decode cX10_finish 190 = .ok (.dup, 1) := by decide +kernel
theorem dX10_finish_191 : decode cX10_finish 191 = .ok (.getfield 77, 3) := by decide +kernel
theorem dX10_finish_194 : decode cX10_finish 194 = .ok (.iconst 1, 1) := by decide +kernel
theorem dX10_finish_195 : decode cX10_finish 195 = .ok (.iadd, 1) := by decide +kernel
theorem dX10_finish_196 : decode cX10_finish 196 = .ok (.putfield 77, 3) := by decide +kernel
theorem dX10_finish_199 : decode cX10_finish 199 = .ok (.aload_n 0, 1) := by decide +kernel
theorem dX10_finish_200 : decode cX10_finish 200 = .ok (.iconst 1, 1) := by decide +kernel
theorem dX10_finish_201 : decode cX10_finish 201 = .ok (.putfield 142, 3) := by decide +kernel
theorem dX10_finish_204 : decode cX10_finish 204 = .ok (.return_, 1) := by decide +kernel
theorem dX11_init_0 : decode cX11_init 0 = .ok (.aload_n 0, 1) := by decide +kernel
theorem dX11_init_1 : decode cX11_init 1 = .ok (.invokespecial 1, 3) := by decide +kernel
theorem dX11_init_4 : decode cX11_init 4 = .ok (.aload_n 0, 1) := by decide +kernel
theorem dX11_init_5 : decode cX11_init 5 = .ok (.new 7, 3) := by decide +kernel
theorem dX11_init_8 : decode cX11_init 8 = .ok (.dup, 1) := by decide +kernel
theorem dX11_init_9 : decode cX11_init 9 = .ok (.invokespecial 9, 3) := by decide +kernel
theorem dX11_init_12 : decode cX11_init 12 = .ok (.putfield 10, 3) := by decide +kernel
theorem dX11_init_15 : decode cX11_init 15 = .ok (.aload_n 0, 1) := by decide +kernel
theorem dX11_init_16 : decode cX11_init 16 = .ok (.bipush 9, 2) := by decide +kernel
theorem dX11_init_18 : decode cX11_init 18 = .ok (.anewarray 16, 3) := by decide +kernel
theorem dX11_init_21 : decode cX11_init 21 = .ok (.putfield 18, 3) := by decide +kernel
theorem dX11_init_24 : decode cX11_init 24 = .ok (.aload_n 0, 1) := by decide +kernel
theorem dX11_init_25 : decode cX11_init 25 = .ok (.new 22, 3) := by decide +kernel
theorem dX11_init_28 : decode cX11_init 28 = .ok (.dup, 1) := by decide +kernel
theorem dX11_init_29 : decode cX11_init 29 = .ok (.invokespecial 24, 3) := by decide +kernel
theorem dX11_init_32 : decode cX11_init 32 = .ok (.putfield 25, 3) := by decide +kernel
theorem dX11_init_35 : decode cX11_init 35 = .ok (.aload_n 0, 1) := by decide +kernel
theorem dX11_init_36 : decode cX11_init 36 = .ok (.sipush 2048, 3) := by decide +kernel
theorem dX11_init_39 : decode cX11_init 39 = .ok (.newarray .int, 2) := by decide +kernel
theorem dX11_init_41 : decode cX11_init 41 = .ok (.putfield 29, 3) := by decide +kernel
theorem dX11_init_44 : decode cX11_init 44 = .ok (.iconst 0, 1) := by decide +kernel
theorem dX11_init_45 : decode cX11_init 45 = .ok (.istore_n 1, 1) := by decide +kernel
theorem dX11_init_46 : decode cX11_init 46 = .ok (.iload_n 1, 1) := by decide +kernel
theorem dX11_init_47 : decode cX11_init 47 = .ok (.aload_n 0, 1) := by decide +kernel
theorem dX11_init_48 : decode cX11_init 48 = .ok (.getfield 18, 3) := by decide +kernel
theorem dX11_init_51 : decode cX11_init 51 = .ok (.arraylength, 1) := by decide +kernel
theorem dX11_init_52 : decode cX11_init 52 = .ok (.if_icmp .ge 22, 3) := by decide +kernel
theorem dX11_init_55 : decode cX11_init 55 = .ok (.aload_n 0, 1) := by decide +kernel
theorem dX11_init_56 : decode cX11_init 56 = .ok (.getfield 18, 3) := by decide +kernel
theorem dX11_init_59 : decode cX11_init 59 = .ok (.iload_n 1, 1) := by decide +kernel
theorem dX11_init_60 : decode cX11_init 60 = .ok (.new 16, 3) := by decide +kernel
theorem dX11_init_63 : decode cX11_init 63 = .ok (.dup, 1) := by decide +kernel
theorem dX11_init_64 : decode cX11_init 64 = .ok (.invokespecial 33, 3) := by decide +kernel
theorem dX11_init_67 : decode cX11_init 67 = .ok (.aastore, 1) := by decide +kernel
theorem dX11_init_68 : decode cX11_init 68 = .ok (.iinc 1 1, 3) := by decide +kernel
theorem dX11_init_71 : decode cX11_init 71 = .ok (.goto (-25), 3) := by decide +kernel
theorem dX11_init_74 : decode cX11_init 74 = .ok (.aload_n 0, 1) := by decide +kernel
theorem dX11_init_75 : decode cX11_init 75 = .ok (.new 34, 3) := by decide +kernel
theorem dX11_init_78 : decode cX11_init 78 = .ok (.dup, 1) := by decide +kernel
theorem dX11_init_79 : decode cX11_init 79 = .ok (.aload_n 0, 1) := by decide +kernel
theorem dX11_init_80 : decode cX11_init 80 = .ok (.getfield 10, 3) := by decide +kernel
theorem dX11_init_83 : decode cX11_init 83 = .ok (.aload_n 0, 1) := by decide +kernel
theorem dX11_init_84 : decode cX11_init 84 = .ok (.getfield 18, 3) := by decide +kernel
theorem dX11_init_87 : decode cX11_init 87 = .ok (.invokespecial 36, 3) := by decide +kernel
theorem dX11_init_90 : decode cX11_init 90 = .ok (.putfield 39, 3) := by decide +kernel
theorem dX11_init_93 : decode cX11_init 93 = .ok (.aload_n 0, 1) := by decide +kernel
theorem dX11_init_94 : decode cX11_init 94 = .ok (.new 34, 3) := by decide +kernel
theorem dX11_init_97 : decode cX11_init 97 = .ok (.dup, 1) := by decide +kernel
theorem dX11_init_98 : decode cX11_init 98 = .ok (.aload_n 0, 1) := by decide +kernel
theorem dX11_init_99 : decode cX11_init 99 = .ok (.getfield 10, 3) := by decide +kernel
theorem dX11_init_102 : decode cX11_init 102 = .ok (.aload_n 0, 1) := by decide +kernel
theorem dX11_init_103 : decode cX11_init 103 = .ok (.getfield 18, 3) := by decide +kernel
theorem dX11_init_106 : decode cX11_init 106 = .ok (.invokespecial 36, 3) := by decide +kernel
theorem dX11_init_109 : decode cX11_init 109 = .ok (.putfield 43, 3) := by decide +kernel
theorem dX11_init_112 : decode cX11_init 112 = .ok (.return_, 1) := by decide +kernel
theorem dX11_variable_0 : decode cX11_variable 0 = .ok (.aload_n 0, 1) := by decide +kernel
theorem dX11_variable_1 : decode cX11_variable 1 = .ok (.getfield 39, 3) := by decide +kernel
theorem dX11_variable_4 : decode cX11_variable 4 = .ok (.getfield 46, 3) := by decide +kernel
theorem dX11_variable_7 : decode cX11_variable 7 = .ok (.astore_n 1, 1) := by decide +kernel
theorem dX11_variable_8 : decode cX11_variable 8 = .ok (.aload_n 1, 1) := by decide +kernel
theorem dX11_variable_9 : decode cX11_variable 9 = .ok (.getfield 50, 3) := by decide +kernel
theorem dX11_variable_12 : decode cX11_variable 12 = .ok (.bipush 60, 2) := by decide +kernel
theorem dX11_variable_14 : decode cX11_variable 14 = .ok (.if_icmp .ge 10, 3) := by decide +kernel
theorem dX11_variable_17 : decode cX11_variable 17 = .ok (.aload_n 1, 1) := by decide +kernel
theorem dX11_variable_18 : decode cX11_variable 18 = .ok (.getfield 56, 3) := by decide +kernel
theorem dX11_variable_21 : decode cX11_variable 21 = .ok (.ifCond .eq 13, 3) := by decide +kernel
theorem dX11_variable_24 : decode cX11_variable 24 = .ok (.new 60, 3) := by decide +kernel
theorem dX11_variable_27 : decode cX11_variable 27 = .ok (.dup, 1) := by decide +kernel
theorem dX11_variable_28 : decode cX11_variable 28 = .ok (.ldc 62, 2) := by decide +kernel
theorem dX11_variable_30 : decode cX11_variable 30 = .ok (.invokespecial 64, 3) := by decide +kernel
theorem dX11_variable_33 : decode cX11_variable 33 = .ok (.athrow, 1) := by decide +kernel
theorem dX11_variable_34 : decode cX11_variable 34 = .ok (.aload_n 0, 1) := by decide +kernel
theorem dX11_variable_35 : decode cX11_variable 35 = .ok (.iconst 0, 1) := by decide +kernel
theorem dX11_variable_36 : decode cX11_variable 36 = .ok (.iconst 0, 1) := by decide +kernel
theorem dX11_variable_37 : decode cX11_variable 37 = .ok (.iconst 0, 1) := by decide +kernel
theorem dX11_variable_38 : decode cX11_variable 38 = .ok (.iconst 0, 1) := by decide +kernel
theorem dX11_variable_39 : decode cX11_variable 39 = .ok (.invokevirtual 67, 3) := by decide +kernel
theorem dX11_variable_42 : decode cX11_variable 42 = .ok (.aload_n 1, 1) := by decide +kernel
theorem dX11_variable_43 : decode cX11_variable 43 = .ok (.invokevirtual 71, 3) := by decide +kernel
theorem dX11_variable_46 : decode cX11_variable 46 = .ok (.ireturn, 1) := by decide +kernel
theorem dX11_equate_0 : decode cX11_equate 0 = .ok (.iload_n 1, 1) := by decide +kernel
theorem dX11_equate_1 : decode cX11_equate 1 = .ok (.iload_n 2, 1) := by decide +kernel
theorem dX11_equate_2 : decode cX11_equate 2 = .ok (.invokestatic 75, 3) := by decide +kernel
theorem dX11_equate_5 : decode cX11_equate 5 = .ok (.aload_n 0, 1) := by decide +kernel
theorem dX11_equate_6 : decode cX11_equate 6 = .ok (.invokevirtual 79, 3) := by decide +kernel
theorem dX11_equate_9 : decode cX11_equate 9 = .ok (.aload_n 0, 1) := by decide +kernel
theorem dX11_equate_10 : decode cX11_equate 10 = .ok (.getfield 10, 3) := by decide +kernel
theorem dX11_equate_13 : decode cX11_equate 13 = .ok (.iconst 0, 1) := by decide +kernel
theorem dX11_equate_14 : decode cX11_equate 14 = .ok (.iconst 0, 1) := by decide +kernel
theorem dX11_equate_15 : decode cX11_equate 15 = .ok (.iload_n 1, 1) := by decide +kernel
theorem dX11_equate_16 : decode cX11_equate 16 = .ok (.iload_n 2, 1) := by decide +kernel
theorem dX11_equate_17 : decode cX11_equate 17 = .ok (.iconst (-1), 1) := by decide +kernel
theorem dX11_equate_18 : decode cX11_equate 18 = .ok (.iconst (-1), 1) := by decide +kernel
theorem dX11_equate_19 : decode cX11_equate 19 = .ok (.invokevirtual 82, 3) := by decide +kernel
theorem dX11_equate_22 : decode cX11_equate 22 = .ok (.ireturn, 1) := by decide +kernel
theorem dX11_token_0 : decode cX11_token 0 = .ok (.iload_n 1, 1) := by decide +kernel
theorem dX11_token_1 : decode cX11_token 1 = .ok (.invokestatic 86, 3) := by decide +kernel
theorem dX11_token_4 : decode cX11_token 4 = .ok (.iload_n 2, 1) := by decide +kernel
theorem dX11_token_5 : decode cX11_token 5 = .ok (.iload_n 3, 1) := by decide +kernel
theorem dX11_token_6 : decode cX11_token 6 = .ok (.invokestatic 75, 3) := by decide +kernel
theorem dX11_token_9 : decode cX11_token 9 = .ok (.aload_n 0, 1) := by decide +kernel
theorem dX11_token_10 : decode cX11_token 10 = .ok (.invokevirtual 79, 3) := by decide +kernel
theorem dX11_token_13 : decode cX11_token 13 = .ok (.aload_n 0, 1) := by decide +kernel
theorem dX11_token_14 : decode cX11_token 14 = .ok (.getfield 10, 3) := by decide +kernel
theorem dX11_token_17 : decode cX11_token 17 = .ok (.iload 4, 2) := by decide +kernel
theorem dX11_token_19 : decode cX11_token 19 = .ok (.ifCond .eq 7, 3) := by decide +kernel
theorem dX11_token_22 : decode cX11_token 22 = .ok (.iconst 2, 1) := by decide +kernel
theorem dX11_token_23 : decode cX11_token 23 = .ok (.goto 4, 3) := by decide +kernel
theorem dX11_token_26 : decode cX11_token 26 = .ok (.iconst 1, 1) := by decide +kernel
theorem dX11_token_27 : decode cX11_token 27 = .ok (.iload_n 1, 1) := by decide +kernel
theorem dX11_token_28 : decode cX11_token 28 = .ok (.iload_n 2, 1) := by decide +kernel
theorem dX11_token_29 : decode cX11_token 29 = .ok (.iload_n 3, 1) := by decide +kernel
theorem dX11_token_30 : decode cX11_token 30 = .ok (.iconst (-1), 1) := by decide +kernel
theorem dX11_token_31 : decode cX11_token 31 = .ok (.iconst (-1), 1) := by decide +kernel
theorem dX11_token_32 : decode cX11_token 32 = .ok (.invokevirtual 82, 3) := by decide +kernel
theorem dX11_token_35 : decode cX11_token 35 = .ok (.ireturn, 1) := by decide +kernel
theorem dX11_both_0 : decode cX11_both 0 = .ok (.aload_n 0, 1) := by decide +kernel
theorem dX11_both_1 : decode cX11_both 1 = .ok (.iload_n 1, 1) := by decide +kernel
theorem dX11_both_2 : decode cX11_both 2 = .ok (.invokevirtual 90, 3) := by decide +kernel
theorem dX11_both_5 : decode cX11_both 5 = .ok (.aload_n 0, 1) := by decide +kernel
theorem dX11_both_6 : decode cX11_both 6 = .ok (.iload_n 2, 1) := by decide +kernel
theorem dX11_both_7 : decode cX11_both 7 = .ok (.invokevirtual 90, 3) := by decide +kernel
theorem dX11_both_10 : decode cX11_both 10 = .ok (.aload_n 0, 1) := by decide +kernel
theorem dX11_both_11 : decode cX11_both 11 = .ok (.invokevirtual 79, 3) := by decide +kernel
theorem dX11_both_14 : decode cX11_both 14 = .ok (.aload_n 0, 1) := by decide +kernel
theorem dX11_both_15 : decode cX11_both 15 = .ok (.getfield 10, 3) := by decide +kernel
theorem dX11_both_18 : decode cX11_both 18 = .ok (.iconst 3, 1) := by decide +kernel
theorem dX11_both_19 : decode cX11_both 19 = .ok (.iconst 0, 1) := by decide +kernel
theorem dX11_both_20 : decode cX11_both 20 = .ok (.iconst 0, 1) := by decide +kernel
theorem dX11_both_21 : decode cX11_both 21 = .ok (.iconst 0, 1) := by decide +kernel
theorem dX11_both_22 : decode cX11_both 22 = .ok (.iload_n 1, 1) := by decide +kernel
theorem dX11_both_23 : decode cX11_both 23 = .ok (.iload_n 2, 1) := by decide +kernel
theorem dX11_both_24 : decode cX11_both 24 = .ok (.invokevirtual 82, 3) := by decide +kernel
theorem dX11_both_27 : decode cX11_both 27 = .ok (.ireturn, 1) := by decide +kernel
theorem dX11_when_0 : decode cX11_when 0 = .ok (.aload_n 0, 1) := by decide +kernel
theorem dX11_when_1 : decode cX11_when 1 = .ok (.iload 4, 2) := by decide +kernel
theorem dX11_when_3 : decode cX11_when 3 = .ok (.invokevirtual 90, 3) := by decide +kernel
theorem dX11_when_6 : decode cX11_when 6 = .ok (.iload_n 1, 1) := by decide +kernel
theorem dX11_when_7 : decode cX11_when 7 = .ok (.invokestatic 93, 3) := by decide +kernel
theorem dX11_when_10 : decode cX11_when 10 = .ok (.iload_n 1, 1) := by decide +kernel
theorem dX11_when_11 : decode cX11_when 11 = .ok (.iload_n 3, 1) := by decide +kernel
theorem dX11_when_12 : decode cX11_when 12 = .ok (.invokestatic 96, 3) := by decide +kernel
theorem dX11_when_15 : decode cX11_when 15 = .ok (.istore 5, 2) := by decide +kernel
theorem dX11_when_17 : decode cX11_when 17 = .ok (.iload_n 2, 1) := by decide +kernel
theorem dX11_when_18 : decode cX11_when 18 = .ok (.iload 5, 2) := by decide +kernel
theorem dX11_when_20 : decode cX11_when 20 = .ok (.invokestatic 75, 3) := by decide +kernel
theorem dX11_when_23 : decode cX11_when 23 = .ok (.aload_n 0, 1) := by decide +kernel
theorem dX11_when_24 : decode cX11_when 24 = .ok (.invokevirtual 79, 3) := by decide +kernel
theorem dX11_when_27 : decode cX11_when 27 = .ok (.aload_n 0, 1) := by decide +kernel
theorem dX11_when_28 : decode cX11_when 28 = .ok (.getfield 10, 3) := by decide +kernel
theorem dX11_when_31 : decode cX11_when 31 = .ok (.iconst 4, 1) := by decide +kernel
theorem dX11_when_32 : decode cX11_when 32 = .ok (.iload_n 1, 1) := by decide +kernel
theorem dX11_when_33 : decode cX11_when 33 = .ok (.iload_n 2, 1) := by decide +kernel
theorem dX11_when_34 : decode cX11_when 34 = .ok (.iload 5, 2) := by decide +kernel
theorem dX11_when_36 : decode cX11_when 36 = .ok (.iload 4, 2) := by decide +kernel
theorem dX11_when_38 : decode cX11_when 38 = .ok (.iconst (-1), 1) := by decide +kernel
theorem dX11_when_39 : decode cX11_when 39 = .ok (.invokevirtual 82, 3) := by decide +kernel
theorem dX11_when_42 : decode cX11_when 42 = .ok (.ireturn, 1) := by decide +kernel
theorem dX11_lot_0 : decode cX11_lot 0 = .ok (.aload_n 0, 1) := by decide +kernel
theorem dX11_lot_1 : decode cX11_lot 1 = .ok (.iload_n 2, 1) := by decide +kernel
theorem dX11_lot_2 : decode cX11_lot 2 = .ok (.invokevirtual 90, 3) := by decide +kernel
theorem dX11_lot_5 : decode cX11_lot 5 = .ok (.aload_n 0, 1) := by decide +kernel
theorem dX11_lot_6 : decode cX11_lot 6 = .ok (.iload 4, 2) := by decide +kernel
theorem dX11_lot_8 : decode cX11_lot 8 = .ok (.invokevirtual 90, 3) := by decide +kernel
theorem dX11_lot_11 : decode cX11_lot 11 = .ok (.iload_n 1, 1) := by decide +kernel
theorem dX11_lot_12 : decode cX11_lot 12 = .ok (.iconst 1, 1) := by decide +kernel
theorem dX11_lot_13 : decode cX11_lot 13 = .ok (.bipush 9, 2) := by decide +kernel
theorem dX11_lot_15 : decode cX11_lot 15 = .ok (.invokestatic 108, 3) := by decide +kernel
theorem dX11_lot_18 : decode cX11_lot 18 = .ok (.iload_n 3, 1) := by decide +kernel
theorem dX11_lot_19 : decode cX11_lot 19 = .ok (.iconst 1, 1) := by decide +kernel
theorem dX11_lot_20 : decode cX11_lot 20 = .ok (.bipush 9, 2) := by decide +kernel
theorem dX11_lot_22 : decode cX11_lot 22 = .ok (.invokestatic 108, 3) := by decide +kernel
theorem dX11_lot_25 : decode cX11_lot 25 = .ok (.aload_n 0, 1) := by decide +kernel
theorem dX11_lot_26 : decode cX11_lot 26 = .ok (.invokevirtual 79, 3) := by decide +kernel
theorem dX11_lot_29 : decode cX11_lot 29 = .ok (.aload_n 0, 1) := by decide +kernel
theorem dX11_lot_30 : decode cX11_lot 30 = .ok (.getfield 10, 3) := by decide +kernel
theorem dX11_lot_33 : decode cX11_lot 33 = .ok (.bipush 12, 2) := by decide +kernel
theorem dX11_lot_35 : decode cX11_lot 35 = .ok (.iconst 0, 1) := by decide +kernel
theorem dX11_lot_36 : decode cX11_lot 36 = .ok (.iload_n 1, 1) := by decide +kernel
theorem dX11_lot_37 : decode cX11_lot 37 = .ok (.iload_n 3, 1) := by decide +kernel
theorem dX11_lot_38 : decode cX11_lot 38 = .ok (.iload_n 2, 1) := by decide +kernel
theorem dX11_lot_39 : decode cX11_lot 39 = .ok (.iload 4, 2) := by decide +kernel
theorem dX11_lot_41 : decode cX11_lot 41 = .ok (.invokevirtual 82, 3) := by decide +kernel
theorem dX11_lot_44 : decode cX11_lot 44 = .ok (.ireturn, 1) := by decide +kernel
theorem dX11_attempt_0 : decode cX11_attempt 0 = .ok (.aload_n 0, 1) := by decide +kernel
theorem dX11_attempt_1 : decode cX11_attempt 1 = .ok (.iload_n 1, 1) := by decide +kernel
theorem dX11_attempt_2 : decode cX11_attempt 2 = .ok (.invokevirtual 90, 3) := by decide +kernel
theorem dX11_attempt_5 : decode cX11_attempt 5 = .ok (.aload_n 0, 1) := by decide +kernel
theorem dX11_attempt_6 : decode cX11_attempt 6 = .ok (.iload_n 2, 1) := by decide +kernel
theorem dX11_attempt_7 : decode cX11_attempt 7 = .ok (.invokevirtual 90, 3) := by decide +kernel
theorem dX11_attempt_10 : decode cX11_attempt 10 = .ok (.aload_n 0, 1) := by decide +kernel
theorem dX11_attempt_11 : decode cX11_attempt 11 = .ok (.invokevirtual 79, 3) := by decide +kernel
theorem dX11_attempt_14 : decode cX11_attempt 14 = .ok (.aload_n 0, 1) := by decide +kernel
theorem dX11_attempt_15 : decode cX11_attempt 15 = .ok (.getfield 10, 3) := by decide +kernel
theorem dX11_attempt_18 : decode cX11_attempt 18 = .ok (.bipush 13, 2) := by decide +kernel
theorem dX11_attempt_20 : decode cX11_attempt 20 = .ok (.iconst 0, 1) := by decide +kernel
theorem dX11_attempt_21 : decode cX11_attempt 21 = .ok (.iconst 0, 1) := by decide +kernel
theorem dX11_attempt_22 : decode cX11_attempt 22 = .ok (.iconst 0, 1) := by decide +kernel
theorem dX11_attempt_23 : decode cX11_attempt 23 = .ok (.iload_n 1, 1) := by decide +kernel
theorem dX11_attempt_24 : decode cX11_attempt 24 = .ok (.iload_n 2, 1) := by decide +kernel
theorem dX11_attempt_25 : decode cX11_attempt 25 = .ok (.invokevirtual 82, 3) := by decide +kernel
theorem dX11_attempt_28 : decode cX11_attempt 28 = .ok (.ireturn, 1) := by decide +kernel
theorem dX11_begin_0 : decode cX11_begin 0 = .ok (.aload_n 0, 1) := by decide +kernel
theorem dX11_begin_1 : decode cX11_begin 1 = .ok (.iload_n 1, 1) := by decide +kernel
theorem dX11_begin_2 : decode cX11_begin 2 = .ok (.invokevirtual 90, 3) := by decide +kernel
theorem dX11_begin_5 : decode cX11_begin 5 = .ok (.aload_n 0, 1) := by decide +kernel
theorem dX11_begin_6 : decode cX11_begin 6 = .ok (.iload_n 2, 1) := by decide +kernel
theorem dX11_begin_7 : decode cX11_begin 7 = .ok (.invokevirtual 171, 3) := by decide +kernel
theorem dX11_begin_10 : decode cX11_begin 10 = .ok (.ifCond .ne 11, 3) := by decide +kernel
theorem dX11_begin_13 : decode cX11_begin 13 = .ok (.aload_n 0, 1) := by decide +kernel
theorem dX11_begin_14 : decode cX11_begin 14 = .ok (.iload_n 3, 1) := by decide +kernel
theorem dX11_begin_15 : decode cX11_begin 15 = .ok (.invokevirtual 171, 3) := by decide +kernel
theorem dX11_begin_18 : decode cX11_begin 18 = .ok (.ifCond .eq 13, 3) := by decide +kernel
theorem dX11_begin_21 : decode cX11_begin 21 = .ok (.new 175, 3) := by decide +kernel
theorem dX11_begin_24 : decode cX11_begin 24 = .ok (.dup, 1) := by decide +kernel
theorem dX11_begin_25 : decode cX11_begin 25 = .ok (.ldc 177, 2) := by decide +kernel
theorem dX11_begin_27 : decode cX11_begin 27 = .ok (.invokespecial 179, 3) := by decide +kernel
theorem dX11_begin_30 : decode cX11_begin 30 = .ok (.athrow, 1) := by decide +kernel
theorem dX11_begin_31 : decode cX11_begin 31 = .ok (.iload_n 2, 1) := by decide +kernel
theorem dX11_begin_32 : decode cX11_begin 32 = .ok (.invokestatic 180, 3) := by decide +kernel
theorem dX11_begin_35 : decode cX11_begin 35 = .ok (.ifCond .ne 10, 3) := by decide +kernel
theorem dX11_begin_38 : decode cX11_begin 38 = .ok (.iload_n 2, 1) := by decide +kernel
theorem dX11_begin_39 : decode cX11_begin 39 = .ok (.sipush 400, 3) := by decide +kernel
theorem dX11_begin_42 : decode cX11_begin 42 = .ok (.if_icmp .lt 17, 3) := by decide +kernel
theorem dX11_begin_45 : decode cX11_begin 45 = .ok (.iload_n 3, 1) := by decide +kernel
theorem dX11_begin_46 : decode cX11_begin 46 = .ok (.invokestatic 180, 3) := by decide +kernel
theorem dX11_begin_49 : decode cX11_begin 49 = .ok (.ifCond .ne 20, 3) := by decide +kernel
theorem dX11_begin_52 : decode cX11_begin 52 = .ok (.iload_n 3, 1) := by decide +kernel
theorem dX11_begin_53 : decode cX11_begin 53 = .ok (.sipush 400, 3) := by decide +kernel
theorem dX11_begin_56 : decode cX11_begin 56 = .ok (.if_icmp .ge 13, 3) := by decide +kernel
theorem dX11_begin_59 : decode cX11_begin 59 = .ok (.new 103, 3) := by decide +kernel
theorem dX11_begin_62 : decode cX11_begin 62 = .ok (.dup, 1) := by decide +kernel
theorem dX11_begin_63 : decode cX11_begin 63 = .ok (.ldc 183, 2) := by decide +kernel
theorem dX11_begin_65 : decode cX11_begin 65 = .ok (.invokespecial 107, 3) := by decide +kernel
theorem dX11_begin_68 : decode cX11_begin 68 = .ok (.athrow, 1) := by decide +kernel
theorem dX11_begin_69 : decode cX11_begin 69 = .ok (.aload_n 0, 1) := by decide +kernel
theorem dX11_begin_70 : decode cX11_begin 70 = .ok (.getfield 39, 3) := by decide +kernel
theorem dX11_begin_73 : decode cX11_begin 73 = .ok (.getfield 46, 3) := by decide +kernel
theorem dX11_begin_76 : decode cX11_begin 76 = .ok (.getfield 56, 3) := by decide +kernel
theorem dX11_begin_79 : decode cX11_begin 79 = .ok (.ifCond .ne 15, 3) := by decide +kernel
theorem dX11_begin_82 : decode cX11_begin 82 = .ok (.aload_n 0, 1) := by decide +kernel
theorem dX11_begin_83 : decode cX11_begin 83 = .ok (.getfield 39, 3) := by decide +kernel
theorem dX11_begin_86 : decode cX11_begin 86 = .ok (.invokevirtual 185, 3) := by decide +kernel
theorem dX11_begin_89 : decode cX11_begin 89 = .ok (.bipush 30, 2) := by decide +kernel
theorem dX11_begin_91 : decode cX11_begin 91 = .ok (.if_icmp .lt 13, 3) := by decide +kernel
theorem dX11_begin_94 : decode cX11_begin 94 = .ok (.new 60, 3) := by decide +kernel
theorem dX11_begin_97 : decode cX11_begin 97 = .ok (.dup, 1) := by decide +kernel
theorem dX11_begin_98 : decode cX11_begin 98 = .ok (.ldc 188, 2) := by decide +kernel
theorem dX11_begin_100 : decode cX11_begin 100 = .ok (.invokespecial 64, 3) := by decide +kernel
theorem dX11_begin_103 : decode cX11_begin 103 = .ok (.athrow, 1) := by decide +kernel
theorem dX11_begin_104 : decode cX11_begin 104 = .ok (.aload_n 0, 1) := by decide +kernel
theorem dX11_begin_105 : decode cX11_begin 105 = .ok (.iconst 3, 1) := by decide +kernel
theorem dX11_begin_106 : decode cX11_begin 106 = .ok (.iload_n 1, 1) := by decide +kernel
theorem dX11_begin_107 : decode cX11_begin 107 = .ok (.iload_n 2, 1) := by decide +kernel
theorem dX11_begin_108 : decode cX11_begin 108 = .ok (.iload_n 3, 1) := by decide +kernel
theorem dX11_begin_109 : decode cX11_begin 109 = .ok (.invokevirtual 67, 3) := by decide +kernel
theorem dX11_begin_112 : decode cX11_begin 112 = .ok (.aload_n 0, 1) := by decide +kernel
theorem dX11_begin_113 : decode cX11_begin 113 = .ok (.getfield 39, 3) := by decide +kernel
theorem dX11_begin_116 : decode cX11_begin 116 = .ok (.iload_n 1, 1) := by decide +kernel
theorem dX11_begin_117 : decode cX11_begin 117 = .ok (.iload_n 2, 1) := by decide +kernel
theorem dX11_begin_118 : decode cX11_begin 118 = .ok (.iload_n 3, 1) := by decide +kernel
theorem dX11_begin_119 : decode cX11_begin 119 = .ok (.invokevirtual 190, 3) := by decide +kernel
theorem dX11_begin_122 : decode cX11_begin 122 = .ok (.aload_n 0, 1) := by decide +kernel
theorem dX11_begin_123 : decode cX11_begin 123 = .ok (.getfield 39, 3) := by decide +kernel
theorem dX11_begin_126 : decode cX11_begin 126 = .ok (.invokevirtual 185, 3) := by decide +kernel
theorem dX11_begin_129 : decode cX11_begin 129 = .ok (.ireturn, 1) := by decide +kernel
theorem dX11_step_0 : decode cX11_step 0 = .ok (.aload_n 0, 1) := by decide +kernel
theorem dX11_step_1 : decode cX11_step 1 = .ok (.getfield 39, 3) := by decide +kernel
theorem dX11_step_4 : decode cX11_step 4 = .ok (.getfield 46, 3) := by decide +kernel
theorem dX11_step_7 : decode cX11_step 7 = .ok (.getfield 56, 3) := by decide +kernel
theorem dX11_step_10 : decode cX11_step 10 = .ok (.ifCond .ne 15, 3) := by decide +kernel
theorem dX11_step_13 : decode cX11_step 13 = .ok (.aload_n 0, 1) := by decide +kernel
theorem dX11_step_14 : decode cX11_step 14 = .ok (.getfield 39, 3) := by decide +kernel
theorem dX11_step_17 : decode cX11_step 17 = .ok (.getfield 193, 3) := by decide +kernel
theorem dX11_step_20 : decode cX11_step 20 = .ok (.bipush 30, 2) := by decide +kernel
theorem dX11_step_22 : decode cX11_step 22 = .ok (.if_icmp .lt 13, 3) := by decide +kernel
theorem dX11_step_25 : decode cX11_step 25 = .ok (.new 60, 3) := by decide +kernel
theorem dX11_step_28 : decode cX11_step 28 = .ok (.dup, 1) := by decide +kernel
theorem dX11_step_29 : decode cX11_step 29 = .ok (.ldc 196, 2) := by decide +kernel
theorem dX11_step_31 : decode cX11_step 31 = .ok (.invokespecial 64, 3) := by decide +kernel
theorem dX11_step_34 : decode cX11_step 34 = .ok (.athrow, 1) := by decide +kernel
theorem dX11_step_35 : decode cX11_step 35 = .ok (.aload_n 0, 1) := by decide +kernel
theorem dX11_step_36 : decode cX11_step 36 = .ok (.iconst 4, 1) := by decide +kernel
theorem dX11_step_37 : decode cX11_step 37 = .ok (.iconst 0, 1) := by decide +kernel
theorem dX11_step_38 : decode cX11_step 38 = .ok (.iconst 0, 1) := by decide +kernel
theorem dX11_step_39 : decode cX11_step 39 = .ok (.iconst 0, 1) := by decide +kernel
theorem dX11_step_40 : decode cX11_step 40 = .ok (.invokevirtual 67, 3) := by decide +kernel
theorem dX11_step_43 : decode cX11_step 43 = .ok (.aload_n 0, 1) := by decide +kernel
theorem dX11_step_44 : decode cX11_step 44 = .ok (.getfield 25, 3) := by decide +kernel
theorem dX11_step_47 : decode cX11_step 47 = .ok (.invokevirtual 198, 3) := by decide +kernel
theorem dX11_step_50 : decode cX11_step 50 = .ok (.aload_n 0, 1) := by decide +kernel
theorem dX11_step_51 : decode cX11_step 51 = .ok (.getfield 39, 3) := by decide +kernel
theorem dX11_step_54 : decode cX11_step 54 = .ok (.aload_n 0, 1) := by decide +kernel
theorem dX11_step_55 : decode cX11_step 55 = .ok (.getfield 25, 3) := by decide +kernel
theorem dX11_step_58 : decode cX11_step 58 = .ok (.invokevirtual 201, 3) := by decide +kernel
theorem dX11_step_61 : decode cX11_step 61 = .ok (.aload_n 0, 1) := by decide +kernel
theorem dX11_step_62 : decode cX11_step 62 = .ok (.getfield 39, 3) := by decide +kernel
theorem dX11_step_65 : decode cX11_step 65 = .ok (.getfield 46, 3) := by decide +kernel
theorem dX11_step_68 : decode cX11_step 68 = .ok (.getfield 205, 3) := by decide +kernel
theorem dX11_step_71 : decode cX11_step 71 = .ok (.ireturn, 1) := by decide +kernel
theorem dX11_seed_0 : decode cX11_seed 0 = .ok (.iload_n 1, 1) := by decide +kernel
theorem dX11_seed_1 : decode cX11_seed 1 = .ok (.iconst 0, 1) := by decide +kernel
theorem dX11_seed_2 : decode cX11_seed 2 = .ok (.ldc 208, 2) := by decide +kernel
theorem dX11_seed_4 : decode cX11_seed 4 = .ok (.invokestatic 108, 3) := by decide +kernel
theorem dX11_seed_7 : decode cX11_seed 7 = .ok (.aload_n 0, 1) := by decide +kernel
theorem dX11_seed_8 : decode cX11_seed 8 = .ok (.iconst 5, 1) := by decide +kernel
theorem dX11_seed_9 : decode cX11_seed 9 = .ok (.iload_n 1, 1) := by decide +kernel
theorem dX11_seed_10 : decode cX11_seed 10 = .ok (.iconst 0, 1) := by decide +kernel
theorem dX11_seed_11 : decode cX11_seed 11 = .ok (.iconst 0, 1) := by decide +kernel
theorem dX11_seed_12 : decode cX11_seed 12 = .ok (.invokevirtual 67, 3) := by decide +kernel
theorem dX11_seed_15 : decode cX11_seed 15 = .ok (.aload_n 0, 1) := by decide +kernel
theorem dX11_seed_16 : decode cX11_seed 16 = .ok (.getfield 39, 3) := by decide +kernel
theorem dX11_seed_19 : decode cX11_seed 19 = .ok (.getfield 209, 3) := by decide +kernel
theorem dX11_seed_22 : decode cX11_seed 22 = .ok (.getfield 213, 3) := by decide +kernel
theorem dX11_seed_25 : decode cX11_seed 25 = .ok (.istore_n 2, 1) := by decide +kernel
theorem dX11_seed_26 : decode cX11_seed 26 = .ok (.aload_n 0, 1) := by decide +kernel
theorem dX11_seed_27 : decode cX11_seed 27 = .ok (.getfield 39, 3) := by decide +kernel
theorem dX11_seed_30 : decode cX11_seed 30 = .ok (.getfield 209, 3) := by decide +kernel
theorem dX11_seed_33 : decode cX11_seed 33 = .ok (.iload_n 1, 1) := by decide +kernel
theorem dX11_seed_34 : decode cX11_seed 34 = .ok (.putfield 213, 3) := by decide +kernel
theorem dX11_seed_37 : decode cX11_seed 37 = .ok (.iload_n 2, 1) := by decide +kernel
theorem dX11_seed_38 : decode cX11_seed 38 = .ok (.ireturn, 1) := by decide +kernel
theorem dX11_ends_0 : decode cX11_ends 0 = .ok (.aload_n 0, 1) := by decide +kernel
theorem dX11_ends_1 : decode cX11_ends 1 = .ok (.getfield 39, 3) := by decide +kernel
theorem dX11_ends_4 : decode cX11_ends 4 = .ok (.getfield 46, 3) := by decide +kernel
theorem dX11_ends_7 : decode cX11_ends 7 = .ok (.getfield 56, 3) := by decide +kernel
theorem dX11_ends_10 : decode cX11_ends 10 = .ok (.ifCond .eq 13, 3) := by decide +kernel
theorem dX11_ends_13 : decode cX11_ends 13 = .ok (.new 60, 3) := by decide +kernel
theorem dX11_ends_16 : decode cX11_ends 16 = .ok (.dup, 1) := by decide +kernel
theorem dX11_ends_17 : decode cX11_ends 17 = .ok (.ldc 218, 2) := by decide +kernel
theorem dX11_ends_19 : decode cX11_ends 19 = .ok (.invokespecial 64, 3) := by decide +kernel
theorem dX11_ends_22 : decode cX11_ends 22 = .ok (.athrow, 1) := by decide +kernel
theorem dX11_ends_23 : decode cX11_ends 23 = .ok (.aload_n 0, 1) := by decide +kernel
theorem dX11_ends_24 : decode cX11_ends 24 = .ok (.getfield 25, 3) := by decide +kernel
theorem dX11_ends_27 : decode cX11_ends 27 = .ok (.invokevirtual 198, 3) := by decide +kernel
theorem dX11_ends_30 : decode cX11_ends 30 = .ok (.iconst 1, 1) := by decide +kernel
theorem dX11_ends_31 : decode cX11_ends 31 = .ok (.istore_n 1, 1) := by decide +kernel
theorem dX11_ends_32 : decode cX11_ends 32 = .ok (.iconst 0, 1) := by decide +kernel
theorem dX11_ends_33 : decode cX11_ends 33 = .ok (.istore_n 2, 1) := by decide +kernel
theorem dX11_ends_34 : decode cX11_ends 34 = .ok (.iload_n 2, 1) := by decide +kernel
theorem dX11_ends_35 : decode cX11_ends 35 = .ok (.bipush 8, 2) := by decide +kernel
theorem dX11_ends_37 : decode cX11_ends 37 = .ok (.if_icmp .ge 67, 3) := by decide +kernel
theorem dX11_ends_40 : decode cX11_ends 40 = .ok (.iload_n 1, 1) := by decide +kernel
theorem dX11_ends_41 : decode cX11_ends 41 = .ok (.ifCond .eq 63, 3) := by decide +kernel
theorem dX11_ends_44 : decode cX11_ends 44 = .ok (.aload_n 0, 1) := by decide +kernel
theorem dX11_ends_45 : decode cX11_ends 45 = .ok (.getfield 43, 3) := by decide +kernel
theorem dX11_ends_48 : decode cX11_ends 48 = .ok (.aload_n 0, 1) := by decide +kernel
theorem dX11_ends_49 : decode cX11_ends 49 = .ok (.getfield 39, 3) := by decide +kernel
theorem dX11_ends_52 : decode cX11_ends 52 = .ok (.invokevirtual 220, 3) := by decide +kernel
theorem dX11_ends_55 : decode cX11_ends 55 = .ok (.aload_n 0, 1) := by decide +kernel
theorem dX11_ends_56 : decode cX11_ends 56 = .ok (.getfield 43, 3) := by decide +kernel
theorem dX11_ends_59 : decode cX11_ends 59 = .ok (.aload_n 0, 1) := by decide +kernel
theorem dX11_ends_60 : decode cX11_ends 60 = .ok (.getfield 25, 3) := by decide +kernel
theorem dX11_ends_63 : decode cX11_ends 63 = .ok (.invokevirtual 201, 3) := by decide +kernel
theorem dX11_ends_66 : decode cX11_ends 66 = .ok (.aload_n 0, 1) := by decide +kernel
theorem dX11_ends_67 : decode cX11_ends 67 = .ok (.getfield 25, 3) := by decide +kernel
theorem dX11_ends_70 : decode cX11_ends 70 = .ok (.aload_n 0, 1) := by decide +kernel
theorem dX11_ends_71 : decode cX11_ends 71 = .ok (.getfield 43, 3) := by decide +kernel
theorem dX11_ends_74 : decode cX11_ends 74 = .ok (.getfield 46, 3) := by decide +kernel
theorem dX11_ends_77 : decode cX11_ends 77 = .ok (.aload_n 0, 1) := by decide +kernel
theorem dX11_ends_78 : decode cX11_ends 78 = .ok (.getfield 39, 3) := by decide +kernel
theorem dX11_ends_81 : decode cX11_ends 81 = .ok (.getfield 46, 3) := by decide +kernel
theorem dX11_ends_84 : decode cX11_ends 84 = .ok (.getfield 50, 3) := by decide +kernel
theorem dX11_ends_87 : decode cX11_ends 87 = .ok (.invokevirtual 224, 3) := by decide +kernel
theorem dX11_ends_90 : decode cX11_ends 90 = .ok (.aload_n 0, 1) := by decide +kernel
theorem dX11_ends_91 : decode cX11_ends 91 = .ok (.getfield 25, 3) := by decide +kernel
theorem dX11_ends_94 : decode cX11_ends 94 = .ok (.invokevirtual 228, 3) := by decide +kernel
theorem dX11_ends_97 : decode cX11_ends 97 = .ok (.istore_n 1, 1) := by decide +kernel
theorem dX11_ends_98 : decode cX11_ends 98 = .ok (.iinc 2 1, 3) := by decide +kernel
theorem dX11_ends_101 : decode cX11_ends 101 = .ok (.goto (-67), 3) := by decide +kernel
theorem dX11_ends_104 : decode cX11_ends 104 = .ok (.iload_n 1, 1) := by decide +kernel
theorem dX11_ends_105 : decode cX11_ends 105 = .ok (.ifCond .eq 7, 3) := by decide +kernel
theorem dX11_ends_108 : decode cX11_ends 108 = .ok (.iconst (-1), 1) := by decide +kernel
theorem dX11_ends_109 : decode cX11_ends 109 = .ok (.goto 10, 3) := by decide +kernel
theorem dX11_ends_112 : decode cX11_ends 112 = .ok (.aload_n 0, 1) := by decide +kernel
theorem dX11_ends_113 : decode cX11_ends 113 = .ok (.getfield 25, 3) := by decide +kernel
theorem dX11_ends_116 : decode cX11_ends 116 = .ok (.getfield 232, 3) := by decide +kernel
theorem dX11_ends_119 : decode cX11_ends 119 = .ok (.ireturn, 1) := by decide +kernel
theorem dX11_clock_0 : decode cX11_clock 0 = .ok (.aload_n 0, 1) := by decide +kernel
theorem dX11_clock_1 : decode cX11_clock 1 = .ok (.getfield 39, 3) := by decide +kernel
theorem dX11_clock_4 : decode cX11_clock 4 = .ok (.getfield 235, 3) := by decide +kernel
theorem dX11_clock_7 : decode cX11_clock 7 = .ok (.ireturn, 1) := by decide +kernel
theorem dX11_hasFailed_0 : decode cX11_hasFailed 0 = .ok (.aload_n 0, 1) := by decide +kernel
theorem dX11_hasFailed_1 : decode cX11_hasFailed 1 = .ok (.getfield 39, 3) := by decide +kernel
theorem dX11_hasFailed_4 : decode cX11_hasFailed 4 = .ok (.getfield 46, 3) := by decide +kernel
theorem dX11_hasFailed_7 : decode cX11_hasFailed 7 = .ok (.getfield 56, 3) := by decide +kernel
theorem dX11_hasFailed_10 : decode cX11_hasFailed 10 = .ok (.ireturn, 1) := by decide +kernel
theorem dX11_value_0 : decode cX11_value 0 = .ok (.aload_n 0, 1) := by decide +kernel
theorem dX11_value_1 : decode cX11_value 1 = .ok (.iload_n 1, 1) := by decide +kernel
theorem dX11_value_2 : decode cX11_value 2 = .ok (.invokevirtual 238, 3) := by decide +kernel
theorem dX11_value_5 : decode cX11_value 5 = .ok (.aload_n 0, 1) := by decide +kernel
theorem dX11_value_6 : decode cX11_value 6 = .ok (.getfield 39, 3) := by decide +kernel
theorem dX11_value_9 : decode cX11_value 9 = .ok (.getfield 46, 3) := by decide +kernel
theorem dX11_value_12 : decode cX11_value 12 = .ok (.sipush 400, 3) := by decide +kernel
theorem dX11_value_15 : decode cX11_value 15 = .ok (.iload_n 1, 1) := by decide +kernel
theorem dX11_value_16 : decode cX11_value 16 = .ok (.iadd, 1) := by decide +kernel
theorem dX11_value_17 : decode cX11_value 17 = .ok (.invokevirtual 241, 3) := by decide +kernel
theorem dX11_value_20 : decode cX11_value 20 = .ok (.istore_n 2, 1) := by decide +kernel
theorem dX11_value_21 : decode cX11_value 21 = .ok (.iload_n 2, 1) := by decide +kernel
theorem dX11_value_22 : decode cX11_value 22 = .ok (.sipush 400, 3) := by decide +kernel
theorem dX11_value_25 : decode cX11_value 25 = .ok (.if_icmp .ge 7, 3) := by decide +kernel
theorem dX11_value_28 : decode cX11_value 28 = .ok (.iload_n 2, 1) := by decide +kernel
theorem dX11_value_29 : decode cX11_value 29 = .ok (.goto 5, 3) := by decide +kernel
theorem dX11_value_32 : decode cX11_value 32 = .ok (.bipush 100, 2) := by decide +kernel
theorem dX11_value_34 : decode cX11_value 34 = .ok (.ireturn, 1) := by decide +kernel
theorem dX11_tokens_0 : decode cX11_tokens 0 = .ok (.aload_n 0, 1) := by decide +kernel
theorem dX11_tokens_1 : decode cX11_tokens 1 = .ok (.getfield 39, 3) := by decide +kernel
theorem dX11_tokens_4 : decode cX11_tokens 4 = .ok (.getfield 46, 3) := by decide +kernel
theorem dX11_tokens_7 : decode cX11_tokens 7 = .ok (.getfield 248, 3) := by decide +kernel
theorem dX11_tokens_10 : decode cX11_tokens 10 = .ok (.ireturn, 1) := by decide +kernel
theorem dX11_part_0 : decode cX11_part 0 = .ok (.aload_n 0, 1) := by decide +kernel
theorem dX11_part_1 : decode cX11_part 1 = .ok (.iload_n 1, 1) := by decide +kernel
theorem dX11_part_2 : decode cX11_part 2 = .ok (.invokevirtual 251, 3) := by decide +kernel
theorem dX11_part_5 : decode cX11_part 5 = .ok (.aload_n 0, 1) := by decide +kernel
theorem dX11_part_6 : decode cX11_part 6 = .ok (.getfield 39, 3) := by decide +kernel
theorem dX11_part_9 : decode cX11_part 9 = .ok (.getfield 46, 3) := by decide +kernel
theorem dX11_part_12 : decode cX11_part 12 = .ok (.astore_n 3, 1) := by decide +kernel
theorem dX11_part_13 : decode cX11_part 13 = .ok (.iload_n 2, 1) := by decide +kernel
theorem dX11_part_14 : decode cX11_part 14 = .ok (.tableswitch 93 0 4 #[34, 41, 52, 63, 78], 34) := by decide +kernel
theorem dX11_part_48 : decode cX11_part 48 = .ok (.aload_n 3, 1) := by decide +kernel
theorem dX11_part_49 : decode cX11_part 49 = .ok (.getfield 254, 3) := by decide +kernel
theorem dX11_part_52 : decode cX11_part 52 = .ok (.iload_n 1, 1) := by decide +kernel
theorem dX11_part_53 : decode cX11_part 53 = .ok (.iaload, 1) := by decide +kernel
theorem dX11_part_54 : decode cX11_part 54 = .ok (.ireturn, 1) := by decide +kernel
theorem dX11_part_55 : decode cX11_part 55 = .ok (.aload_n 3, 1) := by decide +kernel
theorem dX11_part_56 : decode cX11_part 56 = .ok (.aload_n 3, 1) := by decide +kernel
theorem dX11_part_57 : decode cX11_part 57 = .ok (.getfield 257, 3) := by decide +kernel
theorem dX11_part_60 : decode cX11_part 60 = .ok (.iload_n 1, 1) := by decide +kernel
theorem dX11_part_61 : decode cX11_part 61 = .ok (.iaload, 1) := by decide +kernel
theorem dX11_part_62 : decode cX11_part 62 = .ok (.invokevirtual 241, 3) := by decide +kernel
theorem dX11_part_65 : decode cX11_part 65 = .ok (.ireturn, 1) := by decide +kernel
theorem dX11_part_66 : decode cX11_part 66 = .ok (.aload_n 3, 1) := by decide +kernel
theorem dX11_part_67 : decode cX11_part 67 = .ok (.aload_n 3, 1) := by decide +kernel
theorem dX11_part_68 : decode cX11_part 68 = .ok (.getfield 260, 3) := by decide +kernel
theorem dX11_part_71 : decode cX11_part 71 = .ok (.iload_n 1, 1) := by decide +kernel
theorem dX11_part_72 : decode cX11_part 72 = .ok (.iaload, 1) := by decide +kernel
theorem dX11_part_73 : decode cX11_part 73 = .ok (.invokevirtual 241, 3) := by decide +kernel
theorem dX11_part_76 : decode cX11_part 76 = .ok (.ireturn, 1) := by decide +kernel
theorem dX11_part_77 : decode cX11_part 77 = .ok (.aload_n 3, 1) := by decide +kernel
theorem dX11_part_78 : decode cX11_part 78 = .ok (.getfield 263, 3) := by decide +kernel
theorem dX11_part_81 : decode cX11_part 81 = .ok (.iload_n 1, 1) := by decide +kernel
theorem dX11_part_82 : decode cX11_part 82 = .ok (.baload, 1) := by decide +kernel
theorem dX11_part_83 : decode cX11_part 83 = .ok (.ifCond .eq 7, 3) := by decide +kernel
theorem dX11_part_86 : decode cX11_part 86 = .ok (.iconst 1, 1) := by decide +kernel
theorem dX11_part_87 : decode cX11_part 87 = .ok (.goto 4, 3) := by decide +kernel
theorem dX11_part_90 : decode cX11_part 90 = .ok (.iconst 0, 1) := by decide +kernel
theorem dX11_part_91 : decode cX11_part 91 = .ok (.ireturn, 1) := by decide +kernel
theorem dX11_part_92 : decode cX11_part 92 = .ok (.aload_n 3, 1) := by decide +kernel
theorem dX11_part_93 : decode cX11_part 93 = .ok (.getfield 267, 3) := by decide +kernel
theorem dX11_part_96 : decode cX11_part 96 = .ok (.iload_n 1, 1) := by decide +kernel
theorem dX11_part_97 : decode cX11_part 97 = .ok (.baload, 1) := by decide +kernel
theorem dX11_part_98 : decode cX11_part 98 = .ok (.ifCond .eq 7, 3) := by decide +kernel
theorem dX11_part_101 : decode cX11_part 101 = .ok (.iconst 1, 1) := by decide +kernel
theorem dX11_part_102 : decode cX11_part 102 = .ok (.goto 4, 3) := by decide +kernel
theorem dX11_part_105 : decode cX11_part 105 = .ok (.iconst 0, 1) := by decide +kernel
theorem dX11_part_106 : decode cX11_part 106 = .ok (.ireturn, 1) := by decide +kernel
theorem dX11_part_107 : decode cX11_part 107 = .ok (.new 103, 3) := by decide +kernel
theorem dX11_part_110 : decode cX11_part 110 = .ok (.dup, 1) := by decide +kernel
theorem dX11_part_111 : decode cX11_part 111 = .ok (.ldc_w 270, 3) := by decide +kernel
theorem dX11_part_114 : decode cX11_part 114 = .ok (.invokespecial 107, 3) := by decide +kernel
theorem dX11_part_117 : decode cX11_part 117 = .ok (.athrow, 1) := by decide +kernel
theorem dX11_isMadeBy_0 : decode cX11_isMadeBy 0 = .ok (.aload_n 0, 1) := by decide +kernel
theorem dX11_isMadeBy_1 : decode cX11_isMadeBy 1 = .ok (.iload_n 1, 1) := by decide +kernel
theorem dX11_isMadeBy_2 : decode cX11_isMadeBy 2 = .ok (.invokevirtual 251, 3) := by decide +kernel
theorem dX11_isMadeBy_5 : decode cX11_isMadeBy 5 = .ok (.aload_n 0, 1) := by decide +kernel
theorem dX11_isMadeBy_6 : decode cX11_isMadeBy 6 = .ok (.iload_n 2, 1) := by decide +kernel
theorem dX11_isMadeBy_7 : decode cX11_isMadeBy 7 = .ok (.invokevirtual 251, 3) := by decide +kernel
theorem dX11_isMadeBy_10 : decode cX11_isMadeBy 10 = .ok (.iload_n 2, 1) := by decide +kernel
theorem dX11_isMadeBy_11 : decode cX11_isMadeBy 11 = .ok (.aload_n 0, 1) := by decide +kernel
theorem dX11_isMadeBy_12 : decode cX11_isMadeBy 12 = .ok (.getfield 39, 3) := by decide +kernel
theorem dX11_isMadeBy_15 : decode cX11_isMadeBy 15 = .ok (.getfield 46, 3) := by decide +kernel
theorem dX11_isMadeBy_18 : decode cX11_isMadeBy 18 = .ok (.getfield 272, 3) := by decide +kernel
theorem dX11_isMadeBy_21 : decode cX11_isMadeBy 21 = .ok (.iload_n 1, 1) := by decide +kernel
theorem dX11_isMadeBy_22 : decode cX11_isMadeBy 22 = .ok (.laload, 1) := by decide +kernel
theorem dX11_isMadeBy_23 : decode cX11_isMadeBy 23 = .ok (.aload_n 0, 1) := by decide +kernel
theorem dX11_isMadeBy_24 : decode cX11_isMadeBy 24 = .ok (.getfield 39, 3) := by decide +kernel
theorem dX11_isMadeBy_27 : decode cX11_isMadeBy 27 = .ok (.getfield 46, 3) := by decide +kernel
theorem dX11_isMadeBy_30 : decode cX11_isMadeBy 30 = .ok (.getfield 276, 3) := by decide +kernel
theorem dX11_isMadeBy_33 : decode cX11_isMadeBy 33 = .ok (.iload_n 1, 1) := by decide +kernel
theorem dX11_isMadeBy_34 : decode cX11_isMadeBy 34 = .ok (.laload, 1) := by decide +kernel
theorem dX11_isMadeBy_35 : decode cX11_isMadeBy 35 = .ok (.invokestatic 279, 3) := by decide +kernel
theorem dX11_isMadeBy_38 : decode cX11_isMadeBy 38 = .ok (.ireturn, 1) := by decide +kernel
theorem dX11_standing_0 : decode cX11_standing 0 = .ok (.aload_n 0, 1) := by decide +kernel
theorem dX11_standing_1 : decode cX11_standing 1 = .ok (.getfield 39, 3) := by decide +kernel
theorem dX11_standing_4 : decode cX11_standing 4 = .ok (.getfield 46, 3) := by decide +kernel
theorem dX11_standing_7 : decode cX11_standing 7 = .ok (.invokevirtual 283, 3) := by decide +kernel
theorem dX11_standing_10 : decode cX11_standing 10 = .ok (.ireturn, 1) := by decide +kernel
theorem dX11_standingAnew_0 : decode cX11_standingAnew 0 = .ok (.aload_n 0, 1) := by decide +kernel
theorem dX11_standingAnew_1 : decode cX11_standingAnew 1 = .ok (.getfield 43, 3) := by decide +kernel
theorem dX11_standingAnew_4 : decode cX11_standingAnew 4 = .ok (.invokevirtual 286, 3) := by decide +kernel
theorem dX11_standingAnew_7 : decode cX11_standingAnew 7 = .ok (.iconst 0, 1) := by decide +kernel
theorem dX11_standingAnew_8 : decode cX11_standingAnew 8 = .ok (.istore_n 1, 1) := by decide +kernel
theorem dX11_standingAnew_9 : decode cX11_standingAnew 9 = .ok (.iload_n 1, 1) := by decide +kernel
theorem dX11_standingAnew_10 : decode cX11_standingAnew 10 = .ok (.aload_n 0, 1) := by decide +kernel
theorem dX11_standingAnew_11 : decode cX11_standingAnew 11 = .ok (.getfield 287, 3) := by decide +kernel
theorem dX11_standingAnew_14 : decode cX11_standingAnew 14 = .ok (.if_icmp .ge 185, 3) := by decide +kernel
theorem dX11_standingAnew_17 : decode cX11_standingAnew 17 = .ok (.iconst 4, 1) := by decide +kernel
theorem dX11_standingAnew_18 : decode cX11_standingAnew 18 = .ok (.iload_n 1, 1) := by decide +kernel
theorem dX11_standingAnew_19 : decode cX11_standingAnew 19 = .ok (.imul, 1) := by decide +kernel
theorem dX11_standingAnew_20 : decode cX11_standingAnew 20 = .ok (.istore_n 2, 1) := by decide +kernel
theorem dX11_standingAnew_21 : decode cX11_standingAnew 21 = .ok (.aload_n 0, 1) := by decide +kernel
theorem dX11_standingAnew_22 : decode cX11_standingAnew 22 = .ok (.getfield 29, 3) := by decide +kernel
theorem dX11_standingAnew_25 : decode cX11_standingAnew 25 = .ok (.iload_n 2, 1) := by decide +kernel
theorem dX11_standingAnew_26 : decode cX11_standingAnew 26 = .ok (.iaload, 1) := by decide +kernel
theorem dX11_standingAnew_27 : decode cX11_standingAnew 27 = .ok (.tableswitch 148 0 4 #[33, 47, 74, 93, 127], 33) := by decide +kernel
theorem dX11_standingAnew_60 : decode cX11_standingAnew 60 = .ok (.aload_n 0, 1) := by decide +kernel
theorem dX11_standingAnew_61 : decode cX11_standingAnew 61 = .ok (.getfield 43, 3) := by decide +kernel
theorem dX11_standingAnew_64 : decode cX11_standingAnew 64 = .ok (.getfield 46, 3) := by decide +kernel
theorem dX11_standingAnew_67 : decode cX11_standingAnew 67 = .ok (.invokevirtual 71, 3) := by decide +kernel
theorem dX11_standingAnew_70 : decode cX11_standingAnew 70 = .ok (.pop, 1) := by decide +kernel
theorem dX11_standingAnew_71 : decode cX11_standingAnew 71 = .ok (.goto 122, 3) := by decide +kernel
theorem dX11_standingAnew_74 : decode cX11_standingAnew 74 = .ok (.aload_n 0, 1) := by decide +kernel
theorem dX11_standingAnew_75 : decode cX11_standingAnew 75 = .ok (.getfield 43, 3) := by decide +kernel
theorem dX11_standingAnew_78 : decode cX11_standingAnew 78 = .ok (.getfield 115, 3) := by decide +kernel
theorem dX11_standingAnew_81 : decode cX11_standingAnew 81 = .ok (.aload_n 0, 1) := by decide +kernel
theorem dX11_standingAnew_82 : decode cX11_standingAnew 82 = .ok (.getfield 29, 3) := by decide +kernel
theorem dX11_standingAnew_85 : decode cX11_standingAnew 85 = .ok (.iload_n 2, 1) := by decide +kernel
theorem dX11_standingAnew_86 : decode cX11_standingAnew 86 = .ok (.iconst 1, 1) := by decide +kernel
theorem dX11_standingAnew_87 : decode cX11_standingAnew 87 = .ok (.iadd, 1) := by decide +kernel
theorem dX11_standingAnew_88 : decode cX11_standingAnew 88 = .ok (.iaload, 1) := by decide +kernel
theorem dX11_standingAnew_89 : decode cX11_standingAnew 89 = .ok (.aload_n 0, 1) := by decide +kernel
theorem dX11_standingAnew_90 : decode cX11_standingAnew 90 = .ok (.getfield 29, 3) := by decide +kernel
theorem dX11_standingAnew_93 : decode cX11_standingAnew 93 = .ok (.iload_n 2, 1) := by decide +kernel
theorem dX11_standingAnew_94 : decode cX11_standingAnew 94 = .ok (.iconst 2, 1) := by decide +kernel
theorem dX11_standingAnew_95 : decode cX11_standingAnew 95 = .ok (.iadd, 1) := by decide +kernel
theorem dX11_standingAnew_96 : decode cX11_standingAnew 96 = .ok (.iaload, 1) := by decide +kernel
theorem dX11_standingAnew_97 : decode cX11_standingAnew 97 = .ok (.iastore, 1) := by decide +kernel
theorem dX11_standingAnew_98 : decode cX11_standingAnew 98 = .ok (.goto 95, 3) := by decide +kernel
theorem dX11_standingAnew_101 : decode cX11_standingAnew 101 = .ok (.aload_n 0, 1) := by decide +kernel
theorem dX11_standingAnew_102 : decode cX11_standingAnew 102 = .ok (.getfield 43, 3) := by decide +kernel
theorem dX11_standingAnew_105 : decode cX11_standingAnew 105 = .ok (.getfield 160, 3) := by decide +kernel
theorem dX11_standingAnew_108 : decode cX11_standingAnew 108 = .ok (.dup, 1) := by decide +kernel
theorem dX11_standingAnew_109 : decode cX11_standingAnew 109 = .ok (.getfield 164, 3) := by decide +kernel
theorem dX11_standingAnew_112 : decode cX11_standingAnew 112 = .ok (.iconst 1, 1) := by decide +kernel
theorem dX11_standingAnew_113 : decode cX11_standingAnew 113 = .ok (.iadd, 1) := by decide +kernel
theorem dX11_standingAnew_114 : decode cX11_standingAnew 114 = .ok (.putfield 164, 3) := by decide +kernel
theorem dX11_standingAnew_117 : decode cX11_standingAnew 117 = .ok (.goto 76, 3) := by decide +kernel
theorem dX11_standingAnew_120 : decode cX11_standingAnew 120 = .ok (.aload_n 0, 1) := by decide +kernel
theorem dX11_standingAnew_121 : decode cX11_standingAnew 121 = .ok (.getfield 43, 3) := by decide +kernel
theorem dX11_standingAnew_124 : decode cX11_standingAnew 124 = .ok (.aload_n 0, 1) := by decide +kernel
theorem dX11_standingAnew_125 : decode cX11_standingAnew 125 = .ok (.getfield 29, 3) := by decide +kernel
theorem dX11_standingAnew_128 : decode cX11_standingAnew 128 = .ok (.iload_n 2, 1) := by decide +kernel
theorem dX11_standingAnew_129 : decode cX11_standingAnew 129 = .ok (.iconst 1, 1) := by decide +kernel
theorem dX11_standingAnew_130 : decode cX11_standingAnew 130 = .ok (.iadd, 1) := by decide +kernel
theorem dX11_standingAnew_131 : decode cX11_standingAnew 131 = .ok (.iaload, 1) := by decide +kernel
theorem dX11_standingAnew_132 : decode cX11_standingAnew 132 = .ok (.aload_n 0, 1) := by decide +kernel
theorem dX11_standingAnew_133 : decode cX11_standingAnew 133 = .ok (.getfield 29, 3) := by decide +kernel
theorem dX11_standingAnew_136 : decode cX11_standingAnew 136 = .ok (.iload_n 2, 1) := by decide +kernel
theorem dX11_standingAnew_137 : decode cX11_standingAnew 137 = .ok (.iconst 2, 1) := by decide +kernel
theorem dX11_standingAnew_138 : decode cX11_standingAnew 138 = .ok (.iadd, 1) := by decide +kernel
theorem dX11_standingAnew_139 : decode cX11_standingAnew 139 = .ok (.iaload, 1) := by decide +kernel
theorem dX11_standingAnew_140 : decode cX11_standingAnew 140 = .ok (.aload_n 0, 1) := by decide +kernel
theorem dX11_standingAnew_141 : decode cX11_standingAnew 141 = .ok (.getfield 29, 3) := by decide +kernel
theorem dX11_standingAnew_144 : decode cX11_standingAnew 144 = .ok (.iload_n 2, 1) := by decide +kernel
theorem dX11_standingAnew_145 : decode cX11_standingAnew 145 = .ok (.iconst 3, 1) := by decide +kernel
theorem dX11_standingAnew_146 : decode cX11_standingAnew 146 = .ok (.iadd, 1) := by decide +kernel
theorem dX11_standingAnew_147 : decode cX11_standingAnew 147 = .ok (.iaload, 1) := by decide +kernel
theorem dX11_standingAnew_148 : decode cX11_standingAnew 148 = .ok (.invokevirtual 190, 3) := by decide +kernel
theorem dX11_standingAnew_151 : decode cX11_standingAnew 151 = .ok (.goto 42, 3) := by decide +kernel
theorem dX11_standingAnew_154 : decode cX11_standingAnew 154 = .ok (.aload_n 0, 1) := by decide +kernel
theorem dX11_standingAnew_155 : decode cX11_standingAnew 155 = .ok (.getfield 25, 3) := by decide +kernel
theorem dX11_standingAnew_158 : decode cX11_standingAnew 158 = .ok (.invokevirtual 198, 3) := by decide +kernel
theorem dX11_standingAnew_161 : decode cX11_standingAnew 161 = .ok (.aload_n 0, 1) := by decide +kernel
theorem dX11_standingAnew_162 : decode cX11_standingAnew 162 = .ok (.getfield 43, 3) := by decide +kernel
theorem dX11_standingAnew_165 : decode cX11_standingAnew 165 = .ok (.aload_n 0, 1) := by decide +kernel
theorem dX11_standingAnew_166 : decode cX11_standingAnew 166 = .ok (.getfield 25, 3) := by decide +kernel
theorem dX11_standingAnew_169 : decode cX11_standingAnew 169 = .ok (.invokevirtual 201, 3) := by decide +kernel
theorem dX11_standingAnew_172 : decode cX11_standingAnew 172 = .ok (.goto 21, 3) := by decide +kernel
theorem dX11_standingAnew_175 : decode cX11_standingAnew 175 = .ok (.aload_n 0, 1) := by decide +kernel
theorem dX11_standingAnew_176 : decode cX11_standingAnew 176 = .ok (.getfield 43, 3) := by decide +kernel
theorem dX11_standingAnew_179 : decode cX11_standingAnew 179 = .ok (.getfield 209, 3) := by decide +kernel
theorem dX11_standingAnew_182 : decode cX11_standingAnew 182 = .ok (.aload_n 0, 1) := by decide +kernel
theorem dX11_standingAnew_183 : decode cX11_standingAnew 183 = .ok (.getfield 29, 3) := by decide +kernel
theorem dX11_standingAnew_186 : decode cX11_standingAnew 186 = .ok (.iload_n 2, 1) := by decide +kernel
theorem dX11_standingAnew_187 : decode cX11_standingAnew 187 = .ok (.iconst 1, 1) := by decide +kernel
theorem dX11_standingAnew_188 : decode cX11_standingAnew 188 = .ok (.iadd, 1) := by decide +kernel
theorem dX11_standingAnew_189 : decode cX11_standingAnew 189 = .ok (.iaload, 1) := by decide +kernel
theorem dX11_standingAnew_190 : decode cX11_standingAnew 190 = .ok (.putfield 213, 3) := by decide +kernel
theorem dX11_standingAnew_193 : decode cX11_standingAnew 193 = .ok (.iinc 1 1, 3) := by decide +kernel
theorem dX11_standingAnew_196 : decode cX11_standingAnew 196 = .ok (.goto (-187), 3) := by decide +kernel
theorem dX11_standingAnew_199 : decode cX11_standingAnew 199 = .ok (.aload_n 0, 1) := by decide +kernel
theorem dX11_standingAnew_200 : decode cX11_standingAnew 200 = .ok (.getfield 43, 3) := by decide +kernel
theorem dX11_standingAnew_203 : decode cX11_standingAnew 203 = .ok (.getfield 46, 3) := by decide +kernel
theorem dX11_standingAnew_206 : decode cX11_standingAnew 206 = .ok (.invokevirtual 283, 3) := by decide +kernel
theorem dX11_standingAnew_209 : decode cX11_standingAnew 209 = .ok (.ireturn, 1) := by decide +kernel
theorem dX11_waiting_0 : decode cX11_waiting 0 = .ok (.aload_n 0, 1) := by decide +kernel
theorem dX11_waiting_1 : decode cX11_waiting 1 = .ok (.getfield 39, 3) := by decide +kernel
theorem dX11_waiting_4 : decode cX11_waiting 4 = .ok (.invokevirtual 185, 3) := by decide +kernel
theorem dX11_waiting_7 : decode cX11_waiting 7 = .ok (.ireturn, 1) := by decide +kernel
theorem dX11_chance_0 : decode cX11_chance 0 = .ok (.aload_n 0, 1) := by decide +kernel
theorem dX11_chance_1 : decode cX11_chance 1 = .ok (.getfield 39, 3) := by decide +kernel
theorem dX11_chance_4 : decode cX11_chance 4 = .ok (.getfield 209, 3) := by decide +kernel
theorem dX11_chance_7 : decode cX11_chance 7 = .ok (.iload_n 1, 1) := by decide +kernel
theorem dX11_chance_8 : decode cX11_chance 8 = .ok (.invokevirtual 295, 3) := by decide +kernel
theorem dX11_chance_11 : decode cX11_chance 11 = .ok (.ireturn, 1) := by decide +kernel
theorem dX11_needNode_0 : decode cX11_needNode 0 = .ok (.iload_n 1, 1) := by decide +kernel
theorem dX11_needNode_1 : decode cX11_needNode 1 = .ok (.ifCond .lt 14, 3) := by decide +kernel
theorem dX11_needNode_4 : decode cX11_needNode 4 = .ok (.iload_n 1, 1) := by decide +kernel
theorem dX11_needNode_5 : decode cX11_needNode 5 = .ok (.aload_n 0, 1) := by decide +kernel
theorem dX11_needNode_6 : decode cX11_needNode 6 = .ok (.getfield 10, 3) := by decide +kernel
theorem dX11_needNode_9 : decode cX11_needNode 9 = .ok (.getfield 299, 3) := by decide +kernel
theorem dX11_needNode_12 : decode cX11_needNode 12 = .ok (.if_icmp .lt 14, 3) := by decide +kernel
theorem dX11_needNode_15 : decode cX11_needNode 15 = .ok (.new 175, 3) := by decide +kernel
theorem dX11_needNode_18 : decode cX11_needNode 18 = .ok (.dup, 1) := by decide +kernel
theorem dX11_needNode_19 : decode cX11_needNode 19 = .ok (.ldc_w 302, 3) := by decide +kernel
theorem dX11_needNode_22 : decode cX11_needNode 22 = .ok (.invokespecial 179, 3) := by decide +kernel
theorem dX11_needNode_25 : decode cX11_needNode 25 = .ok (.athrow, 1) := by decide +kernel
theorem dX11_needNode_26 : decode cX11_needNode 26 = .ok (.return_, 1) := by decide +kernel
theorem dX11_needVariable_0 : decode cX11_needVariable 0 = .ok (.iload_n 1, 1) := by decide +kernel
theorem dX11_needVariable_1 : decode cX11_needVariable 1 = .ok (.ifCond .lt 17, 3) := by decide +kernel
theorem dX11_needVariable_4 : decode cX11_needVariable 4 = .ok (.iload_n 1, 1) := by decide +kernel
theorem dX11_needVariable_5 : decode cX11_needVariable 5 = .ok (.aload_n 0, 1) := by decide +kernel
theorem dX11_needVariable_6 : decode cX11_needVariable 6 = .ok (.getfield 39, 3) := by decide +kernel
theorem dX11_needVariable_9 : decode cX11_needVariable 9 = .ok (.getfield 46, 3) := by decide +kernel
theorem dX11_needVariable_12 : decode cX11_needVariable 12 = .ok (.getfield 50, 3) := by decide +kernel
theorem dX11_needVariable_15 : decode cX11_needVariable 15 = .ok (.if_icmp .lt 13, 3) := by decide +kernel
theorem dX11_needVariable_18 : decode cX11_needVariable 18 = .ok (.new 175, 3) := by decide +kernel
theorem dX11_needVariable_21 : decode cX11_needVariable 21 = .ok (.dup, 1) := by decide +kernel
theorem dX11_needVariable_22 : decode cX11_needVariable 22 = .ok (.ldc 177, 2) := by decide +kernel
theorem dX11_needVariable_24 : decode cX11_needVariable 24 = .ok (.invokespecial 179, 3) := by decide +kernel
theorem dX11_needVariable_27 : decode cX11_needVariable 27 = .ok (.athrow, 1) := by decide +kernel
theorem dX11_needVariable_28 : decode cX11_needVariable 28 = .ok (.return_, 1) := by decide +kernel
theorem dX11_needToken_0 : decode cX11_needToken 0 = .ok (.iload_n 1, 1) := by decide +kernel
theorem dX11_needToken_1 : decode cX11_needToken 1 = .ok (.ifCond .lt 17, 3) := by decide +kernel
theorem dX11_needToken_4 : decode cX11_needToken 4 = .ok (.iload_n 1, 1) := by decide +kernel
theorem dX11_needToken_5 : decode cX11_needToken 5 = .ok (.aload_n 0, 1) := by decide +kernel
theorem dX11_needToken_6 : decode cX11_needToken 6 = .ok (.getfield 39, 3) := by decide +kernel
theorem dX11_needToken_9 : decode cX11_needToken 9 = .ok (.getfield 46, 3) := by decide +kernel
theorem dX11_needToken_12 : decode cX11_needToken 12 = .ok (.getfield 248, 3) := by decide +kernel
theorem dX11_needToken_15 : decode cX11_needToken 15 = .ok (.if_icmp .lt 14, 3) := by decide +kernel
theorem dX11_needToken_18 : decode cX11_needToken 18 = .ok (.new 175, 3) := by decide +kernel
theorem dX11_needToken_21 : decode cX11_needToken 21 = .ok (.dup, 1) := by decide +kernel
theorem dX11_needToken_22 : decode cX11_needToken 22 = .ok (.ldc_w 306, 3) := by decide +kernel
theorem dX11_needToken_25 : decode cX11_needToken 25 = .ok (.invokespecial 179, 3) := by decide +kernel
theorem dX11_needToken_28 : decode cX11_needToken 28 = .ok (.athrow, 1) := by decide +kernel
theorem dX11_needToken_29 : decode cX11_needToken 29 = .ok (.return_, 1) := by decide +kernel
theorem dX11_needRoom_0 : decode cX11_needRoom 0 = .ok (.aload_n 0, 1) := by decide +kernel
theorem dX11_needRoom_1 : decode cX11_needRoom 1 = .ok (.getfield 10, 3) := by decide +kernel
theorem dX11_needRoom_4 : decode cX11_needRoom 4 = .ok (.getfield 299, 3) := by decide +kernel
theorem dX11_needRoom_7 : decode cX11_needRoom 7 = .ok (.bipush 60, 2) := by decide +kernel
theorem dX11_needRoom_9 : decode cX11_needRoom 9 = .ok (.if_icmp .lt 14, 3) := by decide +kernel
theorem dX11_needRoom_12 : decode cX11_needRoom 12 = .ok (.new 60, 3) := by decide +kernel
theorem dX11_needRoom_15 : decode cX11_needRoom 15 = .ok (.dup, 1) := by decide +kernel
theorem dX11_needRoom_16 : decode cX11_needRoom 16 = .ok (.ldc_w 308, 3) := by decide +kernel
theorem dX11_needRoom_19 : decode cX11_needRoom 19 = .ok (.invokespecial 64, 3) := by decide +kernel
theorem dX11_needRoom_22 : decode cX11_needRoom 22 = .ok (.athrow, 1) := by decide +kernel
theorem dX11_needRoom_23 : decode cX11_needRoom 23 = .ok (.return_, 1) := by decide +kernel
theorem dX11_needWithin_0 : decode cX11_needWithin 0 = .ok (.iload_n 0, 1) := by decide +kernel
theorem dX11_needWithin_1 : decode cX11_needWithin 1 = .ok (.iload_n 1, 1) := by decide +kernel
theorem dX11_needWithin_2 : decode cX11_needWithin 2 = .ok (.if_icmp .lt 8, 3) := by decide +kernel
theorem dX11_needWithin_5 : decode cX11_needWithin 5 = .ok (.iload_n 0, 1) := by decide +kernel
theorem dX11_needWithin_6 : decode cX11_needWithin 6 = .ok (.iload_n 2, 1) := by decide +kernel
theorem dX11_needWithin_7 : decode cX11_needWithin 7 = .ok (.if_icmp .le 14, 3) := by decide +kernel
theorem dX11_needWithin_10 : decode cX11_needWithin 10 = .ok (.new 103, 3) := by decide +kernel
theorem dX11_needWithin_13 : decode cX11_needWithin 13 = .ok (.dup, 1) := by decide +kernel
theorem dX11_needWithin_14 : decode cX11_needWithin 14 = .ok (.ldc_w 310, 3) := by decide +kernel
theorem dX11_needWithin_17 : decode cX11_needWithin 17 = .ok (.invokespecial 107, 3) := by decide +kernel
theorem dX11_needWithin_20 : decode cX11_needWithin 20 = .ok (.athrow, 1) := by decide +kernel
theorem dX11_needWithin_21 : decode cX11_needWithin 21 = .ok (.return_, 1) := by decide +kernel
theorem dX11_needSort_0 : decode cX11_needSort 0 = .ok (.iload_n 0, 1) := by decide +kernel
theorem dX11_needSort_1 : decode cX11_needSort 1 = .ok (.iconst 0, 1) := by decide +kernel
theorem dX11_needSort_2 : decode cX11_needSort 2 = .ok (.iconst 5, 1) := by decide +kernel
theorem dX11_needSort_3 : decode cX11_needSort 3 = .ok (.invokestatic 108, 3) := by decide +kernel
theorem dX11_needSort_6 : decode cX11_needSort 6 = .ok (.return_, 1) := by decide +kernel
theorem dX11_needCondition_0 : decode cX11_needCondition 0 = .ok (.iload_n 0, 1) := by decide +kernel
theorem dX11_needCondition_1 : decode cX11_needCondition 1 = .ok (.bipush 10, 2) := by decide +kernel
theorem dX11_needCondition_3 : decode cX11_needCondition 3 = .ok (.if_icmp .lt 9, 3) := by decide +kernel
theorem dX11_needCondition_6 : decode cX11_needCondition 6 = .ok (.iload_n 0, 1) := by decide +kernel
theorem dX11_needCondition_7 : decode cX11_needCondition 7 = .ok (.bipush 16, 2) := by decide +kernel
theorem dX11_needCondition_9 : decode cX11_needCondition 9 = .ok (.if_icmp .lt 9, 3) := by decide +kernel
theorem dX11_needCondition_12 : decode cX11_needCondition 12 = .ok (.iload_n 0, 1) := by decide +kernel
theorem dX11_needCondition_13 : decode cX11_needCondition 13 = .ok (.iconst 0, 1) := by decide +kernel
theorem dX11_needCondition_14 : decode cX11_needCondition 14 = .ok (.iconst 3, 1) := by decide +kernel
theorem dX11_needCondition_15 : decode cX11_needCondition 15 = .ok (.invokestatic 108, 3) := by decide +kernel
theorem dX11_needCondition_18 : decode cX11_needCondition 18 = .ok (.return_, 1) := by decide +kernel
theorem dX11_asked_0 : decode cX11_asked 0 = .ok (.iload_n 0, 1) := by decide +kernel
theorem dX11_asked_1 : decode cX11_asked 1 = .ok (.iconst 3, 1) := by decide +kernel
theorem dX11_asked_2 : decode cX11_asked 2 = .ok (.if_icmp .ne 7, 3) := by decide +kernel
theorem dX11_asked_5 : decode cX11_asked 5 = .ok (.iconst 0, 1) := by decide +kernel
theorem dX11_asked_6 : decode cX11_asked 6 = .ok (.goto 4, 3) := by decide +kernel
theorem dX11_asked_9 : decode cX11_asked 9 = .ok (.iload_n 1, 1) := by decide +kernel
theorem dX11_asked_10 : decode cX11_asked 10 = .ok (.ireturn, 1) := by decide +kernel
theorem dX11_needTerms_0 : decode cX11_needTerms 0 = .ok (.iload_n 0, 1) := by decide +kernel
theorem dX11_needTerms_1 : decode cX11_needTerms 1 = .ok (.invokestatic 312, 3) := by decide +kernel
theorem dX11_needTerms_4 : decode cX11_needTerms 4 = .ok (.ifCond .eq 10, 3) := by decide +kernel
theorem dX11_needTerms_7 : decode cX11_needTerms 7 = .ok (.iload_n 1, 1) := by decide +kernel
theorem dX11_needTerms_8 : decode cX11_needTerms 8 = .ok (.invokestatic 312, 3) := by decide +kernel
theorem dX11_needTerms_11 : decode cX11_needTerms 11 = .ok (.ifCond .ne 14, 3) := by decide +kernel
theorem dX11_needTerms_14 : decode cX11_needTerms 14 = .ok (.new 103, 3) := by decide +kernel
theorem dX11_needTerms_17 : decode cX11_needTerms 17 = .ok (.dup, 1) := by decide +kernel
theorem dX11_needTerms_18 : decode cX11_needTerms 18 = .ok (.ldc_w 315, 3) := by decide +kernel
theorem dX11_needTerms_21 : decode cX11_needTerms 21 = .ok (.invokespecial 107, 3) := by decide +kernel
theorem dX11_needTerms_24 : decode cX11_needTerms 24 = .ok (.athrow, 1) := by decide +kernel
theorem dX11_needTerms_25 : decode cX11_needTerms 25 = .ok (.return_, 1) := by decide +kernel
theorem dX11_isNoVariable_0 : decode cX11_isNoVariable 0 = .ok (.iload_n 1, 1) := by decide +kernel
theorem dX11_isNoVariable_1 : decode cX11_isNoVariable 1 = .ok (.sipush 400, 3) := by decide +kernel
theorem dX11_isNoVariable_4 : decode cX11_isNoVariable 4 = .ok (.if_icmp .lt 25, 3) := by decide +kernel
theorem dX11_isNoVariable_7 : decode cX11_isNoVariable 7 = .ok (.iload_n 1, 1) := by decide +kernel
theorem dX11_isNoVariable_8 : decode cX11_isNoVariable 8 = .ok (.sipush 400, 3) := by decide +kernel
theorem dX11_isNoVariable_11 : decode cX11_isNoVariable 11 = .ok (.isub, 1) := by decide +kernel
theorem dX11_isNoVariable_12 : decode cX11_isNoVariable 12 = .ok (.aload_n 0, 1) := by decide +kernel
theorem dX11_isNoVariable_13 : decode cX11_isNoVariable 13 = .ok (.getfield 39, 3) := by decide +kernel
theorem dX11_isNoVariable_16 : decode cX11_isNoVariable 16 = .ok (.getfield 46, 3) := by decide +kernel
theorem dX11_isNoVariable_19 : decode cX11_isNoVariable 19 = .ok (.getfield 50, 3) := by decide +kernel
theorem dX11_isNoVariable_22 : decode cX11_isNoVariable 22 = .ok (.if_icmp .lt 7, 3) := by decide +kernel
theorem dX11_isNoVariable_25 : decode cX11_isNoVariable 25 = .ok (.iconst 1, 1) := by decide +kernel
theorem dX11_isNoVariable_26 : decode cX11_isNoVariable 26 = .ok (.goto 4, 3) := by decide +kernel
theorem dX11_isNoVariable_29 : decode cX11_isNoVariable 29 = .ok (.iconst 0, 1) := by decide +kernel
theorem dX11_isNoVariable_30 : decode cX11_isNoVariable 30 = .ok (.ireturn, 1) := by decide +kernel
theorem dX11_isValue_0 : decode cX11_isValue 0 = .ok (.iload_n 0, 1) := by decide +kernel
theorem dX11_isValue_1 : decode cX11_isValue 1 = .ok (.bipush (-99), 2) := by decide +kernel
theorem dX11_isValue_3 : decode cX11_isValue 3 = .ok (.if_icmp .lt 13, 3) := by decide +kernel
theorem dX11_isValue_6 : decode cX11_isValue 6 = .ok (.iload_n 0, 1) := by decide +kernel
theorem dX11_isValue_7 : decode cX11_isValue 7 = .ok (.bipush 99, 2) := by decide +kernel
theorem dX11_isValue_9 : decode cX11_isValue 9 = .ok (.if_icmp .gt 7, 3) := by decide +kernel
theorem dX11_isValue_12 : decode cX11_isValue 12 = .ok (.iconst 1, 1) := by decide +kernel
theorem dX11_isValue_13 : decode cX11_isValue 13 = .ok (.goto 4, 3) := by decide +kernel
theorem dX11_isValue_16 : decode cX11_isValue 16 = .ok (.iconst 0, 1) := by decide +kernel
theorem dX11_isValue_17 : decode cX11_isValue 17 = .ok (.ireturn, 1) := by decide +kernel
theorem dX11_isSlot_0 : decode cX11_isSlot 0 = .ok (.iload_n 0, 1) := by decide +kernel
theorem dX11_isSlot_1 : decode cX11_isSlot 1 = .ok (.sipush 200, 3) := by decide +kernel
theorem dX11_isSlot_4 : decode cX11_isSlot 4 = .ok (.if_icmp .lt 14, 3) := by decide +kernel
theorem dX11_isSlot_7 : decode cX11_isSlot 7 = .ok (.iload_n 0, 1) := by decide +kernel
theorem dX11_isSlot_8 : decode cX11_isSlot 8 = .ok (.sipush 204, 3) := by decide +kernel
theorem dX11_isSlot_11 : decode cX11_isSlot 11 = .ok (.if_icmp .ge 7, 3) := by decide +kernel
theorem dX11_isSlot_14 : decode cX11_isSlot 14 = .ok (.iconst 1, 1) := by decide +kernel
theorem dX11_isSlot_15 : decode cX11_isSlot 15 = .ok (.goto 4, 3) := by decide +kernel
theorem dX11_isSlot_18 : decode cX11_isSlot 18 = .ok (.iconst 0, 1) := by decide +kernel
theorem dX11_isSlot_19 : decode cX11_isSlot 19 = .ok (.ireturn, 1) := by decide +kernel
theorem dX11_isTerm_0 : decode cX11_isTerm 0 = .ok (.iload_n 0, 1) := by decide +kernel
theorem dX11_isTerm_1 : decode cX11_isTerm 1 = .ok (.invokestatic 180, 3) := by decide +kernel
theorem dX11_isTerm_4 : decode cX11_isTerm 4 = .ok (.ifCond .ne 10, 3) := by decide +kernel
theorem dX11_isTerm_7 : decode cX11_isTerm 7 = .ok (.iload_n 0, 1) := by decide +kernel
theorem dX11_isTerm_8 : decode cX11_isTerm 8 = .ok (.invokestatic 327, 3) := by decide +kernel
theorem dX11_isTerm_11 : decode cX11_isTerm 11 = .ok (.ifCond .eq 7, 3) := by decide +kernel
theorem dX11_isTerm_14 : decode cX11_isTerm 14 = .ok (.iconst 1, 1) := by decide +kernel
theorem dX11_isTerm_15 : decode cX11_isTerm 15 = .ok (.goto 4, 3) := by decide +kernel
theorem dX11_isTerm_18 : decode cX11_isTerm 18 = .ok (.iconst 0, 1) := by decide +kernel
theorem dX11_isTerm_19 : decode cX11_isTerm 19 = .ok (.ireturn, 1) := by decide +kernel
theorem dX11_note_0 : decode cX11_note 0 = .ok (.aload_n 0, 1) := by decide +kernel
theorem dX11_note_1 : decode cX11_note 1 = .ok (.getfield 287, 3) := by decide +kernel
theorem dX11_note_4 : decode cX11_note 4 = .ok (.sipush 512, 3) := by decide +kernel
theorem dX11_note_7 : decode cX11_note 7 = .ok (.if_icmp .lt 4, 3) := by decide +kernel
theorem dX11_note_10 : decode cX11_note 10 = .ok (.return_, 1) := by decide +kernel
theorem dX11_note_11 : decode cX11_note 11 = .ok (.iconst 4, 1) := by decide +kernel
theorem dX11_note_12 : decode cX11_note 12 = .ok (.aload_n 0, 1) := by decide +kernel
theorem dX11_note_13 : decode cX11_note 13 = .ok (.getfield 287, 3) := by decide +kernel
theorem dX11_note_16 : decode cX11_note 16 = .ok (.imul, 1) := by decide +kernel
theorem dX11_note_17 : decode cX11_note 17 = .ok (.istore 5, 2) := by decide +kernel
theorem dX11_note_19 : decode cX11_note 19 = .ok (.aload_n 0, 1) := by decide +kernel
theorem dX11_note_20 : decode cX11_note 20 = .ok (.getfield 29, 3) := by decide +kernel
theorem dX11_note_23 : decode cX11_note 23 = .ok (.iload 5, 2) := by decide +kernel
theorem dX11_note_25 : decode cX11_note 25 = .ok (.iload_n 1, 1) := by decide +kernel
theorem dX11_note_26 : decode cX11_note 26 = .ok (.iastore, 1) := by decide +kernel
theorem dX11_note_27 : decode cX11_note 27 = .ok (.aload_n 0, 1) := by decide +kernel
theorem dX11_note_28 : decode cX11_note 28 = .ok (.getfield 29, 3) := by decide +kernel
theorem dX11_note_31 : decode cX11_note 31 = .ok (.iload 5, 2) := by decide +kernel
theorem dX11_note_33 : decode cX11_note 33 = .ok (.iconst 1, 1) := by decide +kernel
theorem dX11_note_34 : decode cX11_note 34 = .ok (.iadd, 1) := by decide +kernel
theorem dX11_note_35 : decode cX11_note 35 = .ok (.iload_n 2, 1) := by decide +kernel
theorem dX11_note_36 : decode cX11_note 36 = .ok (.iastore, 1) := by decide +kernel
theorem dX11_note_37 : decode cX11_note 37 = .ok (.aload_n 0, 1) := by decide +kernel
theorem dX11_note_38 : decode cX11_note 38 = .ok (.getfield 29, 3) := by decide +kernel
theorem dX11_note_41 : decode cX11_note 41 = .ok (.iload 5, 2) := by decide +kernel
theorem dX11_note_43 : decode cX11_note 43 = .ok (.iconst 2, 1) := by decide +kernel
theorem dX11_note_44 : decode cX11_note 44 = .ok (.iadd, 1) := by decide +kernel
theorem dX11_note_45 : decode cX11_note 45 = .ok (.iload_n 3, 1) := by decide +kernel
theorem dX11_note_46 : decode cX11_note 46 = .ok (.iastore, 1) := by decide +kernel
theorem dX11_note_47 : decode cX11_note 47 = .ok (.aload_n 0, 1) := by decide +kernel
theorem dX11_note_48 : decode cX11_note 48 = .ok (.getfield 29, 3) := by decide +kernel
theorem dX11_note_51 : decode cX11_note 51 = .ok (.iload 5, 2) := by decide +kernel
theorem dX11_note_53 : decode cX11_note 53 = .ok (.iconst 3, 1) := by decide +kernel
theorem dX11_note_54 : decode cX11_note 54 = .ok (.iadd, 1) := by decide +kernel
theorem dX11_note_55 : decode cX11_note 55 = .ok (.iload 4, 2) := by decide +kernel
theorem dX11_note_57 : decode cX11_note 57 = .ok (.iastore, 1) := by decide +kernel
theorem dX11_note_58 : decode cX11_note 58 = .ok (.aload_n 0, 1) := by decide +kernel
theorem dX11_note_59 : decode cX11_note 59 = .ok (.dup, 1) := by decide +kernel
theorem dX11_note_60 : decode cX11_note 60 = .ok (.getfield 287, 3) := by decide +kernel
theorem dX11_note_63 : decode cX11_note 63 = .ok (.iconst 1, 1) := by decide +kernel
theorem dX11_note_64 : decode cX11_note 64 = .ok (.iadd, 1) := by decide +kernel
theorem dX11_note_65 : decode cX11_note 65 = .ok (.putfield 287, 3) := by decide +kernel
theorem dX11_note_68 : decode cX11_note 68 = .ok (.return_, 1) := by decide +kernel

theorem dX0_init_0 : decode cX0_init 0 = .ok (.aload_n 0, 1) := by decide +kernel
theorem dX0_init_1 : decode cX0_init 1 = .ok (.invokespecial 3, 3) := by decide +kernel
theorem dX0_init_4 : decode cX0_init 4 = .ok (.aload_n 0, 1) := by decide +kernel
theorem dX0_init_5 : decode cX0_init 5 = .ok (.bipush 40, 2) := by decide +kernel
theorem dX0_init_7 : decode cX0_init 7 = .ok (.newarray .int, 2) := by decide +kernel
theorem dX0_init_9 : decode cX0_init 9 = .ok (.putfield 9, 3) := by decide +kernel
theorem dX0_init_12 : decode cX0_init 12 = .ok (.aload_n 0, 1) := by decide +kernel
theorem dX0_init_13 : decode cX0_init 13 = .ok (.iconst (-1), 1) := by decide +kernel
theorem dX0_init_14 : decode cX0_init 14 = .ok (.putfield 15, 3) := by decide +kernel
theorem dX0_init_17 : decode cX0_init 17 = .ok (.return_, 1) := by decide +kernel
theorem dX0_become_0 : decode cX0_become 0 = .ok (.aload_n 0, 1) := by decide +kernel
theorem dX0_become_1 : decode cX0_become 1 = .ok (.iload_n 1, 1) := by decide +kernel
theorem dX0_become_2 : decode cX0_become 2 = .ok (.putfield 15, 3) := by decide +kernel
theorem dX0_become_5 : decode cX0_become 5 = .ok (.aload_n 0, 1) := by decide +kernel
theorem dX0_become_6 : decode cX0_become 6 = .ok (.iload_n 2, 1) := by decide +kernel
theorem dX0_become_7 : decode cX0_become 7 = .ok (.putfield 19, 3) := by decide +kernel
theorem dX0_become_10 : decode cX0_become 10 = .ok (.aload_n 0, 1) := by decide +kernel
theorem dX0_become_11 : decode cX0_become 11 = .ok (.getfield 9, 3) := by decide +kernel
theorem dX0_become_14 : decode cX0_become 14 = .ok (.iconst 0, 1) := by decide +kernel
theorem dX0_become_15 : decode cX0_become 15 = .ok (.invokestatic 22, 3) := by decide +kernel
theorem dX0_become_18 : decode cX0_become 18 = .ok (.return_, 1) := by decide +kernel
theorem dX0_put_0 : decode cX0_put 0 = .ok (.iload_n 1, 1) := by decide +kernel
theorem dX0_put_1 : decode cX0_put 1 = .ok (.ifCond .lt 43, 3) := by decide +kernel
theorem dX0_put_4 : decode cX0_put 4 = .ok (.iload_n 1, 1) := by decide +kernel
theorem dX0_put_5 : decode cX0_put 5 = .ok (.aload_n 0, 1) := by decide +kernel
theorem dX0_put_6 : decode cX0_put 6 = .ok (.getfield 19, 3) := by decide +kernel
theorem dX0_put_9 : decode cX0_put 9 = .ok (.if_icmp .ge 35, 3) := by decide +kernel
theorem dX0_put_12 : decode cX0_put 12 = .ok (.aload_n 0, 1) := by decide +kernel
theorem dX0_put_13 : decode cX0_put 13 = .ok (.getfield 9, 3) := by decide +kernel
theorem dX0_put_16 : decode cX0_put 16 = .ok (.iload_n 1, 1) := by decide +kernel
theorem dX0_put_17 : decode cX0_put 17 = .ok (.aload_n 0, 1) := by decide +kernel
theorem dX0_put_18 : decode cX0_put 18 = .ok (.getfield 15, 3) := by decide +kernel
theorem dX0_put_21 : decode cX0_put 21 = .ok (.ifCond .ne 8, 3) := by decide +kernel
theorem dX0_put_24 : decode cX0_put 24 = .ok (.iload_n 2, 1) := by decide +kernel
theorem dX0_put_25 : decode cX0_put 25 = .ok (.i2b, 1) := by decide +kernel
theorem dX0_put_26 : decode cX0_put 26 = .ok (.goto 17, 3) := by decide +kernel
theorem dX0_put_29 : decode cX0_put 29 = .ok (.aload_n 0, 1) := by decide +kernel
theorem dX0_put_30 : decode cX0_put 30 = .ok (.getfield 15, 3) := by decide +kernel
theorem dX0_put_33 : decode cX0_put 33 = .ok (.iconst 1, 1) := by decide +kernel
theorem dX0_put_34 : decode cX0_put 34 = .ok (.if_icmp .ne 8, 3) := by decide +kernel
theorem dX0_put_37 : decode cX0_put 37 = .ok (.iload_n 2, 1) := by decide +kernel
theorem dX0_put_38 : decode cX0_put 38 = .ok (.i2s, 1) := by decide +kernel
theorem dX0_put_39 : decode cX0_put 39 = .ok (.goto 4, 3) := by decide +kernel
theorem dX0_put_42 : decode cX0_put 42 = .ok (.iload_n 2, 1) := by decide +kernel
theorem dX0_put_43 : decode cX0_put 43 = .ok (.iastore, 1) := by decide +kernel
theorem dX0_put_44 : decode cX0_put 44 = .ok (.return_, 1) := by decide +kernel
theorem dX0_at_0 : decode cX0_at 0 = .ok (.iload_n 1, 1) := by decide +kernel
theorem dX0_at_1 : decode cX0_at 1 = .ok (.ifCond .lt 20, 3) := by decide +kernel
theorem dX0_at_4 : decode cX0_at 4 = .ok (.iload_n 1, 1) := by decide +kernel
theorem dX0_at_5 : decode cX0_at 5 = .ok (.aload_n 0, 1) := by decide +kernel
theorem dX0_at_6 : decode cX0_at 6 = .ok (.getfield 19, 3) := by decide +kernel
theorem dX0_at_9 : decode cX0_at 9 = .ok (.if_icmp .ge 12, 3) := by decide +kernel
theorem dX0_at_12 : decode cX0_at 12 = .ok (.aload_n 0, 1) := by decide +kernel
theorem dX0_at_13 : decode cX0_at 13 = .ok (.getfield 9, 3) := by decide +kernel
theorem dX0_at_16 : decode cX0_at 16 = .ok (.iload_n 1, 1) := by decide +kernel
theorem dX0_at_17 : decode cX0_at 17 = .ok (.iaload, 1) := by decide +kernel
theorem dX0_at_18 : decode cX0_at 18 = .ok (.goto 4, 3) := by decide +kernel
theorem dX0_at_21 : decode cX0_at 21 = .ok (.iconst 0, 1) := by decide +kernel
theorem dX0_at_22 : decode cX0_at 22 = .ok (.ireturn, 1) := by decide +kernel
theorem dX0_holds_0 : decode cX0_holds 0 = .ok (.iload_n 1, 1) := by decide +kernel
theorem dX0_holds_1 : decode cX0_holds 1 = .ok (.ifCond .lt 29, 3) := by decide +kernel
theorem dX0_holds_4 : decode cX0_holds 4 = .ok (.iload_n 2, 1) := by decide +kernel
theorem dX0_holds_5 : decode cX0_holds 5 = .ok (.ifCond .lt 25, 3) := by decide +kernel
theorem dX0_holds_8 : decode cX0_holds 8 = .ok (.iload_n 1, 1) := by decide +kernel
theorem dX0_holds_9 : decode cX0_holds 9 = .ok (.aload_n 0, 1) := by decide +kernel
theorem dX0_holds_10 : decode cX0_holds 10 = .ok (.getfield 19, 3) := by decide +kernel
theorem dX0_holds_13 : decode cX0_holds 13 = .ok (.if_icmp .gt 17, 3) := by decide +kernel
theorem dX0_holds_16 : decode cX0_holds 16 = .ok (.iload_n 2, 1) := by decide +kernel
theorem dX0_holds_17 : decode cX0_holds 17 = .ok (.aload_n 0, 1) := by decide +kernel
theorem dX0_holds_18 : decode cX0_holds 18 = .ok (.getfield 19, 3) := by decide +kernel
theorem dX0_holds_21 : decode cX0_holds 21 = .ok (.iload_n 1, 1) := by decide +kernel
theorem dX0_holds_22 : decode cX0_holds 22 = .ok (.isub, 1) := by decide +kernel
theorem dX0_holds_23 : decode cX0_holds 23 = .ok (.if_icmp .gt 7, 3) := by decide +kernel
theorem dX0_holds_26 : decode cX0_holds 26 = .ok (.iconst 1, 1) := by decide +kernel
theorem dX0_holds_27 : decode cX0_holds 27 = .ok (.goto 4, 3) := by decide +kernel
theorem dX0_holds_30 : decode cX0_holds 30 = .ok (.iconst 0, 1) := by decide +kernel
theorem dX0_holds_31 : decode cX0_holds 31 = .ok (.ireturn, 1) := by decide +kernel
theorem dX1_init_0 : decode cX1_init 0 = .ok (.aload_n 0, 1) := by decide +kernel
theorem dX1_init_1 : decode cX1_init 1 = .ok (.invokespecial 3, 3) := by decide +kernel
theorem dX1_init_4 : decode cX1_init 4 = .ok (.aload_n 0, 1) := by decide +kernel
theorem dX1_init_5 : decode cX1_init 5 = .ok (.sipush 10000, 3) := by decide +kernel
theorem dX1_init_8 : decode cX1_init 8 = .ok (.newarray .long, 2) := by decide +kernel
theorem dX1_init_10 : decode cX1_init 10 = .ok (.putfield 11, 3) := by decide +kernel
theorem dX1_init_13 : decode cX1_init 13 = .ok (.aload_n 0, 1) := by decide +kernel
theorem dX1_init_14 : decode cX1_init 14 = .ok (.bipush 31, 2) := by decide +kernel
theorem dX1_init_16 : decode cX1_init 16 = .ok (.newarray .long, 2) := by decide +kernel
theorem dX1_init_18 : decode cX1_init 18 = .ok (.putfield 15, 3) := by decide +kernel
theorem dX1_init_21 : decode cX1_init 21 = .ok (.aload_n 0, 1) := by decide +kernel
theorem dX1_init_22 : decode cX1_init 22 = .ok (.sipush 1000, 3) := by decide +kernel
theorem dX1_init_25 : decode cX1_init 25 = .ok (.newarray .int, 2) := by decide +kernel
theorem dX1_init_27 : decode cX1_init 27 = .ok (.putfield 18, 3) := by decide +kernel
theorem dX1_init_30 : decode cX1_init 30 = .ok (.aload_n 0, 1) := by decide +kernel
theorem dX1_init_31 : decode cX1_init 31 = .ok (.iconst (-1), 1) := by decide +kernel
theorem dX1_init_32 : decode cX1_init 32 = .ok (.putfield 22, 3) := by decide +kernel
theorem dX1_init_35 : decode cX1_init 35 = .ok (.return_, 1) := by decide +kernel
theorem dX1_timesOf_0 : decode cX1_timesOf 0 = .ok (.iload_n 1, 1) := by decide +kernel
theorem dX1_timesOf_1 : decode cX1_timesOf 1 = .ok (.bipush 100, 2) := by decide +kernel
theorem dX1_timesOf_3 : decode cX1_timesOf 3 = .ok (.imul, 1) := by decide +kernel
theorem dX1_timesOf_4 : decode cX1_timesOf 4 = .ok (.iload_n 2, 1) := by decide +kernel
theorem dX1_timesOf_5 : decode cX1_timesOf 5 = .ok (.bipush 10, 2) := by decide +kernel
theorem dX1_timesOf_7 : decode cX1_timesOf 7 = .ok (.imul, 1) := by decide +kernel
theorem dX1_timesOf_8 : decode cX1_timesOf 8 = .ok (.iadd, 1) := by decide +kernel
theorem dX1_timesOf_9 : decode cX1_timesOf 9 = .ok (.iload_n 3, 1) := by decide +kernel
theorem dX1_timesOf_10 : decode cX1_timesOf 10 = .ok (.iadd, 1) := by decide +kernel
theorem dX1_timesOf_11 : decode cX1_timesOf 11 = .ok (.istore 4, 2) := by decide +kernel
theorem dX1_timesOf_13 : decode cX1_timesOf 13 = .ok (.iload 4, 2) := by decide +kernel
theorem dX1_timesOf_15 : decode cX1_timesOf 15 = .ok (.ifCond .lt 11, 3) := by decide +kernel
theorem dX1_timesOf_18 : decode cX1_timesOf 18 = .ok (.iload 4, 2) := by decide +kernel
theorem dX1_timesOf_20 : decode cX1_timesOf 20 = .ok (.sipush 1000, 3) := by decide +kernel
theorem dX1_timesOf_23 : decode cX1_timesOf 23 = .ok (.if_icmp .lt 5, 3) := by decide +kernel
theorem dX1_timesOf_26 : decode cX1_timesOf 26 = .ok (.iconst 0, 1) := by decide +kernel
theorem dX1_timesOf_27 : decode cX1_timesOf 27 = .ok (.ireturn, 1) := by decide +kernel
theorem dX1_timesOf_28 : decode cX1_timesOf 28 = .ok (.aload_n 0, 1) := by decide +kernel
theorem dX1_timesOf_29 : decode cX1_timesOf 29 = .ok (.getfield 18, 3) := by decide +kernel
theorem dX1_timesOf_32 : decode cX1_timesOf 32 = .ok (.iload 4, 2) := by decide +kernel
theorem dX1_timesOf_34 : decode cX1_timesOf 34 = .ok (.iaload, 1) := by decide +kernel
theorem dX1_timesOf_35 : decode cX1_timesOf 35 = .ok (.ifCond .ne 23, 3) := by decide +kernel
theorem dX1_timesOf_38 : decode cX1_timesOf 38 = .ok (.aload_n 0, 1) := by decide +kernel
theorem dX1_timesOf_39 : decode cX1_timesOf 39 = .ok (.iload_n 1, 1) := by decide +kernel
theorem dX1_timesOf_40 : decode cX1_timesOf 40 = .ok (.iload_n 2, 1) := by decide +kernel
theorem dX1_timesOf_41 : decode cX1_timesOf 41 = .ok (.iload_n 3, 1) := by decide +kernel
theorem dX1_timesOf_42 : decode cX1_timesOf 42 = .ok (.invokevirtual 26, 3) := by decide +kernel
theorem dX1_timesOf_45 : decode cX1_timesOf 45 = .ok (.aload_n 0, 1) := by decide +kernel
theorem dX1_timesOf_46 : decode cX1_timesOf 46 = .ok (.getfield 18, 3) := by decide +kernel
theorem dX1_timesOf_49 : decode cX1_timesOf 49 = .ok (.iload 4, 2) := by decide +kernel
theorem dX1_timesOf_51 : decode cX1_timesOf 51 = .ok (.iconst 1, 1) := by decide +kernel
theorem dX1_timesOf_52 : decode cX1_timesOf 52 = .ok (.aload_n 0, 1) := by decide +kernel
theorem dX1_timesOf_53 : decode cX1_timesOf 53 = .ok (.invokevirtual 30, 3) := by decide +kernel
theorem dX1_timesOf_56 : decode cX1_timesOf 56 = .ok (.ior, 1) := by decide +kernel
theorem dX1_timesOf_57 : decode cX1_timesOf 57 = .ok (.iastore, 1) := by decide +kernel
theorem dX1_timesOf_58 : decode cX1_timesOf 58 = .ok (.aload_n 0, 1) := by decide +kernel
theorem dX1_timesOf_59 : decode cX1_timesOf 59 = .ok (.getfield 18, 3) := by decide +kernel
theorem dX1_timesOf_62 : decode cX1_timesOf 62 = .ok (.iload 4, 2) := by decide +kernel
theorem dX1_timesOf_64 : decode cX1_timesOf 64 = .ok (.iaload, 1) := by decide +kernel
theorem dX1_timesOf_65 : decode cX1_timesOf 65 = .ok (.bipush (-2), 2) := by decide +kernel
theorem dX1_timesOf_67 : decode cX1_timesOf 67 = .ok (.iand, 1) := by decide +kernel
theorem dX1_timesOf_68 : decode cX1_timesOf 68 = .ok (.ireturn, 1) := by decide +kernel
theorem dX1_timesLaid_0 : decode cX1_timesLaid 0 = .ok (.iconst 0, 1) := by decide +kernel
theorem dX1_timesLaid_1 : decode cX1_timesLaid 1 = .ok (.istore_n 1, 1) := by decide +kernel
theorem dX1_timesLaid_2 : decode cX1_timesLaid 2 = .ok (.iconst 1, 1) := by decide +kernel
theorem dX1_timesLaid_3 : decode cX1_timesLaid 3 = .ok (.istore_n 2, 1) := by decide +kernel
theorem dX1_timesLaid_4 : decode cX1_timesLaid 4 = .ok (.iload_n 2, 1) := by decide +kernel
theorem dX1_timesLaid_5 : decode cX1_timesLaid 5 = .ok (.bipush 30, 2) := by decide +kernel
theorem dX1_timesLaid_7 : decode cX1_timesLaid 7 = .ok (.if_icmp .gt 28, 3) := by decide +kernel
theorem dX1_timesLaid_10 : decode cX1_timesLaid 10 = .ok (.aload_n 0, 1) := by decide +kernel
theorem dX1_timesLaid_11 : decode cX1_timesLaid 11 = .ok (.getfield 15, 3) := by decide +kernel
theorem dX1_timesLaid_14 : decode cX1_timesLaid 14 = .ok (.iload_n 2, 1) := by decide +kernel
theorem dX1_timesLaid_15 : decode cX1_timesLaid 15 = .ok (.laload, 1) := by decide +kernel
theorem dX1_timesLaid_16 : decode cX1_timesLaid 16 = .ok (.ldc2_w 34, 3) := by decide +kernel
theorem dX1_timesLaid_19 : decode cX1_timesLaid 19 = .ok (.lcmp, 1) := by decide +kernel
theorem dX1_timesLaid_20 : decode cX1_timesLaid 20 = .ok (.ifCond .eq 9, 3) := by decide +kernel
theorem dX1_timesLaid_23 : decode cX1_timesLaid 23 = .ok (.iload_n 1, 1) := by decide +kernel
theorem dX1_timesLaid_24 : decode cX1_timesLaid 24 = .ok (.iconst 1, 1) := by decide +kernel
theorem dX1_timesLaid_25 : decode cX1_timesLaid 25 = .ok (.iload_n 2, 1) := by decide +kernel
theorem dX1_timesLaid_26 : decode cX1_timesLaid 26 = .ok (.ishl, 1) := by decide +kernel
theorem dX1_timesLaid_27 : decode cX1_timesLaid 27 = .ok (.ior, 1) := by decide +kernel
theorem dX1_timesLaid_28 : decode cX1_timesLaid 28 = .ok (.istore_n 1, 1) := by decide +kernel
theorem dX1_timesLaid_29 : decode cX1_timesLaid 29 = .ok (.iinc 2 1, 3) := by decide +kernel
theorem dX1_timesLaid_32 : decode cX1_timesLaid 32 = .ok (.goto (-28), 3) := by decide +kernel
theorem dX1_timesLaid_35 : decode cX1_timesLaid 35 = .ok (.iload_n 1, 1) := by decide +kernel
theorem dX1_timesLaid_36 : decode cX1_timesLaid 36 = .ok (.ireturn, 1) := by decide +kernel
theorem dX1_lay_0 : decode cX1_lay 0 = .ok (.iload_n 1, 1) := by decide +kernel
theorem dX1_lay_1 : decode cX1_lay 1 = .ok (.bipush 100, 2) := by decide +kernel
theorem dX1_lay_3 : decode cX1_lay 3 = .ok (.imul, 1) := by decide +kernel
theorem dX1_lay_4 : decode cX1_lay 4 = .ok (.iload_n 2, 1) := by decide +kernel
theorem dX1_lay_5 : decode cX1_lay 5 = .ok (.bipush 10, 2) := by decide +kernel
theorem dX1_lay_7 : decode cX1_lay 7 = .ok (.imul, 1) := by decide +kernel
theorem dX1_lay_8 : decode cX1_lay 8 = .ok (.iadd, 1) := by decide +kernel
theorem dX1_lay_9 : decode cX1_lay 9 = .ok (.iload_n 3, 1) := by decide +kernel
theorem dX1_lay_10 : decode cX1_lay 10 = .ok (.iadd, 1) := by decide +kernel
theorem dX1_lay_11 : decode cX1_lay 11 = .ok (.istore 4, 2) := by decide +kernel
theorem dX1_lay_13 : decode cX1_lay 13 = .ok (.iload 4, 2) := by decide +kernel
theorem dX1_lay_15 : decode cX1_lay 15 = .ok (.aload_n 0, 1) := by decide +kernel
theorem dX1_lay_16 : decode cX1_lay 16 = .ok (.getfield 22, 3) := by decide +kernel
theorem dX1_lay_19 : decode cX1_lay 19 = .ok (.if_icmp .ne 4, 3) := by decide +kernel
theorem dX1_lay_22 : decode cX1_lay 22 = .ok (.return_, 1) := by decide +kernel
theorem dX1_lay_23 : decode cX1_lay 23 = .ok (.aload_n 0, 1) := by decide +kernel
theorem dX1_lay_24 : decode cX1_lay 24 = .ok (.iload 4, 2) := by decide +kernel
theorem dX1_lay_26 : decode cX1_lay 26 = .ok (.putfield 22, 3) := by decide +kernel
theorem dX1_lay_29 : decode cX1_lay 29 = .ok (.aload_n 0, 1) := by decide +kernel
theorem dX1_lay_30 : decode cX1_lay 30 = .ok (.iload_n 1, 1) := by decide +kernel
theorem dX1_lay_31 : decode cX1_lay 31 = .ok (.putfield 36, 3) := by decide +kernel
theorem dX1_lay_34 : decode cX1_lay 34 = .ok (.aload_n 0, 1) := by decide +kernel
theorem dX1_lay_35 : decode cX1_lay 35 = .ok (.iload_n 2, 1) := by decide +kernel
theorem dX1_lay_36 : decode cX1_lay 36 = .ok (.putfield 39, 3) := by decide +kernel
theorem dX1_lay_39 : decode cX1_lay 39 = .ok (.aload_n 0, 1) := by decide +kernel
theorem dX1_lay_40 : decode cX1_lay 40 = .ok (.iload_n 3, 1) := by decide +kernel
theorem dX1_lay_41 : decode cX1_lay 41 = .ok (.putfield 42, 3) := by decide +kernel
theorem dX1_lay_44 : decode cX1_lay 44 = .ok (.aload_n 0, 1) := by decide +kernel
theorem dX1_lay_45 : decode cX1_lay 45 = .ok (.getfield 11, 3) := by decide +kernel
theorem dX1_lay_48 : decode cX1_lay 48 = .ok (.ldc2_w 34, 3) := by decide +kernel
theorem dX1_lay_51 : decode cX1_lay 51 = .ok (.invokestatic 45, 3) := by decide +kernel
theorem dX1_lay_54 : decode cX1_lay 54 = .ok (.aload_n 0, 1) := by decide +kernel
theorem dX1_lay_55 : decode cX1_lay 55 = .ok (.getfield 11, 3) := by decide +kernel
theorem dX1_lay_58 : decode cX1_lay 58 = .ok (.iconst 0, 1) := by decide +kernel
theorem dX1_lay_59 : decode cX1_lay 59 = .ok (.lconst 0, 1) := by decide +kernel
theorem dX1_lay_60 : decode cX1_lay 60 = .ok (.lastore, 1) := by decide +kernel
theorem dX1_lay_61 : decode cX1_lay 61 = .ok (.iconst 0, 1) := by decide +kernel
theorem dX1_lay_62 : decode cX1_lay 62 = .ok (.istore 5, 2) := by decide +kernel
theorem dX1_lay_64 : decode cX1_lay 64 = .ok (.iload 5, 2) := by decide +kernel
theorem dX1_lay_66 : decode cX1_lay 66 = .ok (.bipush 30, 2) := by decide +kernel
theorem dX1_lay_68 : decode cX1_lay 68 = .ok (.if_icmp .gt 22, 3) := by decide +kernel
theorem dX1_lay_71 : decode cX1_lay 71 = .ok (.aload_n 0, 1) := by decide +kernel
theorem dX1_lay_72 : decode cX1_lay 72 = .ok (.getfield 15, 3) := by decide +kernel
theorem dX1_lay_75 : decode cX1_lay 75 = .ok (.iload 5, 2) := by decide +kernel
theorem dX1_lay_77 : decode cX1_lay 77 = .ok (.aload_n 0, 1) := by decide +kernel
theorem dX1_lay_78 : decode cX1_lay 78 = .ok (.iload 5, 2) := by decide +kernel
theorem dX1_lay_80 : decode cX1_lay 80 = .ok (.invokevirtual 51, 3) := by decide +kernel
theorem dX1_lay_83 : decode cX1_lay 83 = .ok (.lastore, 1) := by decide +kernel
theorem dX1_lay_84 : decode cX1_lay 84 = .ok (.iinc 5 1, 3) := by decide +kernel
theorem dX1_lay_87 : decode cX1_lay 87 = .ok (.goto (-23), 3) := by decide +kernel
theorem dX1_lay_90 : decode cX1_lay 90 = .ok (.return_, 1) := by decide +kernel
theorem dX1_turnsTill_0 : decode cX1_turnsTill 0 = .ok (.aload_n 0, 1) := by decide +kernel
theorem dX1_turnsTill_1 : decode cX1_turnsTill 1 = .ok (.getfield 15, 3) := by decide +kernel
theorem dX1_turnsTill_4 : decode cX1_turnsTill 4 = .ok (.iload_n 1, 1) := by decide +kernel
theorem dX1_turnsTill_5 : decode cX1_turnsTill 5 = .ok (.laload, 1) := by decide +kernel
theorem dX1_turnsTill_6 : decode cX1_turnsTill 6 = .ok (.lstore_n 2, 1) := by decide +kernel
theorem dX1_turnsTill_7 : decode cX1_turnsTill 7 = .ok (.lload_n 2, 1) := by decide +kernel
theorem dX1_turnsTill_8 : decode cX1_turnsTill 8 = .ok (.ldc2_w 34, 3) := by decide +kernel
theorem dX1_turnsTill_11 : decode cX1_turnsTill 11 = .ok (.lcmp, 1) := by decide +kernel
theorem dX1_turnsTill_12 : decode cX1_turnsTill 12 = .ok (.ifCond .ne 7, 3) := by decide +kernel
theorem dX1_turnsTill_15 : decode cX1_turnsTill 15 = .ok (.iconst (-1), 1) := by decide +kernel
theorem dX1_turnsTill_16 : decode cX1_turnsTill 16 = .ok (.goto 9, 3) := by decide +kernel
theorem dX1_turnsTill_19 : decode cX1_turnsTill 19 = .ok (.lload_n 2, 1) := by decide +kernel
theorem dX1_turnsTill_20 : decode cX1_turnsTill 20 = .ok (.ldc2_w 55, 3) := by decide +kernel
theorem dX1_turnsTill_23 : decode cX1_turnsTill 23 = .ok (.ldiv, 1) := by decide +kernel
theorem dX1_turnsTill_24 : decode cX1_turnsTill 24 = .ok (.l2i, 1) := by decide +kernel
theorem dX1_turnsTill_25 : decode cX1_turnsTill 25 = .ok (.ireturn, 1) := by decide +kernel
theorem dX1_wayTill_0 : decode cX1_wayTill 0 = .ok (.aload_n 0, 1) := by decide +kernel
theorem dX1_wayTill_1 : decode cX1_wayTill 1 = .ok (.getfield 15, 3) := by decide +kernel
theorem dX1_wayTill_4 : decode cX1_wayTill 4 = .ok (.iload_n 1, 1) := by decide +kernel
theorem dX1_wayTill_5 : decode cX1_wayTill 5 = .ok (.laload, 1) := by decide +kernel
theorem dX1_wayTill_6 : decode cX1_wayTill 6 = .ok (.lstore_n 2, 1) := by decide +kernel
theorem dX1_wayTill_7 : decode cX1_wayTill 7 = .ok (.lload_n 2, 1) := by decide +kernel
theorem dX1_wayTill_8 : decode cX1_wayTill 8 = .ok (.ldc2_w 57, 3) := by decide +kernel
theorem dX1_wayTill_11 : decode cX1_wayTill 11 = .ok (.lrem, 1) := by decide +kernel
theorem dX1_wayTill_12 : decode cX1_wayTill 12 = .ok (.l2i, 1) := by decide +kernel
theorem dX1_wayTill_13 : decode cX1_wayTill 13 = .ok (.istore 4, 2) := by decide +kernel
theorem dX1_wayTill_15 : decode cX1_wayTill 15 = .ok (.lload_n 2, 1) := by decide +kernel
theorem dX1_wayTill_16 : decode cX1_wayTill 16 = .ok (.ldc2_w 34, 3) := by decide +kernel
theorem dX1_wayTill_19 : decode cX1_wayTill 19 = .ok (.lcmp, 1) := by decide +kernel
theorem dX1_wayTill_20 : decode cX1_wayTill 20 = .ok (.ifCond .eq 16, 3) := by decide +kernel
theorem dX1_wayTill_23 : decode cX1_wayTill 23 = .ok (.iload 4, 2) := by decide +kernel
theorem dX1_wayTill_25 : decode cX1_wayTill 25 = .ok (.iconst 1, 1) := by decide +kernel
theorem dX1_wayTill_26 : decode cX1_wayTill 26 = .ok (.if_icmp .lt 10, 3) := by decide +kernel
theorem dX1_wayTill_29 : decode cX1_wayTill 29 = .ok (.iload 4, 2) := by decide +kernel
theorem dX1_wayTill_31 : decode cX1_wayTill 31 = .ok (.bipush 9, 2) := by decide +kernel
theorem dX1_wayTill_33 : decode cX1_wayTill 33 = .ok (.if_icmp .le 5, 3) := by decide +kernel
theorem dX1_wayTill_36 : decode cX1_wayTill 36 = .ok (.iconst (-1), 1) := by decide +kernel
theorem dX1_wayTill_37 : decode cX1_wayTill 37 = .ok (.ireturn, 1) := by decide +kernel
theorem dX1_wayTill_38 : decode cX1_wayTill 38 = .ok (.getstatic 59, 3) := by decide +kernel
theorem dX1_wayTill_41 : decode cX1_wayTill 41 = .ok (.iload 4, 2) := by decide +kernel
theorem dX1_wayTill_43 : decode cX1_wayTill 43 = .ok (.iconst 1, 1) := by decide +kernel
theorem dX1_wayTill_44 : decode cX1_wayTill 44 = .ok (.isub, 1) := by decide +kernel
theorem dX1_wayTill_45 : decode cX1_wayTill 45 = .ok (.laload, 1) := by decide +kernel
theorem dX1_wayTill_46 : decode cX1_wayTill 46 = .ok (.lstore 5, 2) := by decide +kernel
theorem dX1_wayTill_48 : decode cX1_wayTill 48 = .ok (.lload 5, 2) := by decide +kernel
theorem dX1_wayTill_50 : decode cX1_wayTill 50 = .ok (.lconst 0, 1) := by decide +kernel
theorem dX1_wayTill_51 : decode cX1_wayTill 51 = .ok (.lcmp, 1) := by decide +kernel
theorem dX1_wayTill_52 : decode cX1_wayTill 52 = .ok (.ifCond .gt 7, 3) := by decide +kernel
theorem dX1_wayTill_55 : decode cX1_wayTill 55 = .ok (.iconst (-1), 1) := by decide +kernel
theorem dX1_wayTill_56 : decode cX1_wayTill 56 = .ok (.goto 12, 3) := by decide +kernel
theorem dX1_wayTill_59 : decode cX1_wayTill 59 = .ok (.lload_n 2, 1) := by decide +kernel
theorem dX1_wayTill_60 : decode cX1_wayTill 60 = .ok (.ldc2_w 55, 3) := by decide +kernel
theorem dX1_wayTill_63 : decode cX1_wayTill 63 = .ok (.lrem, 1) := by decide +kernel
theorem dX1_wayTill_64 : decode cX1_wayTill 64 = .ok (.lload 5, 2) := by decide +kernel
theorem dX1_wayTill_66 : decode cX1_wayTill 66 = .ok (.ldiv, 1) := by decide +kernel
theorem dX1_wayTill_67 : decode cX1_wayTill 67 = .ok (.l2i, 1) := by decide +kernel
theorem dX1_wayTill_68 : decode cX1_wayTill 68 = .ok (.ireturn, 1) := by decide +kernel
theorem dX1_passMinute_0 : decode cX1_passMinute 0 = .ok (.iload_n 1, 1) := by decide +kernel
theorem dX1_passMinute_1 : decode cX1_passMinute 1 = .ok (.bipush 10, 2) := by decide +kernel
theorem dX1_passMinute_3 : decode cX1_passMinute 3 = .ok (.irem, 1) := by decide +kernel
theorem dX1_passMinute_4 : decode cX1_passMinute 4 = .ok (.sipush 1000, 3) := by decide +kernel
theorem dX1_passMinute_7 : decode cX1_passMinute 7 = .ok (.imul, 1) := by decide +kernel
theorem dX1_passMinute_8 : decode cX1_passMinute 8 = .ok (.istore_n 2, 1) := by decide +kernel
theorem dX1_passMinute_9 : decode cX1_passMinute 9 = .ok (.ldc2_w 34, 3) := by decide +kernel
theorem dX1_passMinute_12 : decode cX1_passMinute 12 = .ok (.lstore_n 3, 1) := by decide +kernel
theorem dX1_passMinute_13 : decode cX1_passMinute 13 = .ok (.iconst 0, 1) := by decide +kernel
theorem dX1_passMinute_14 : decode cX1_passMinute 14 = .ok (.istore 5, 2) := by decide +kernel
theorem dX1_passMinute_16 : decode cX1_passMinute 16 = .ok (.iload 5, 2) := by decide +kernel
theorem dX1_passMinute_18 : decode cX1_passMinute 18 = .ok (.sipush 1000, 3) := by decide +kernel
theorem dX1_passMinute_21 : decode cX1_passMinute 21 = .ok (.if_icmp .ge 57, 3) := by decide +kernel
theorem dX1_passMinute_24 : decode cX1_passMinute 24 = .ok (.aload_n 0, 1) := by decide +kernel
theorem dX1_passMinute_25 : decode cX1_passMinute 25 = .ok (.getfield 11, 3) := by decide +kernel
theorem dX1_passMinute_28 : decode cX1_passMinute 28 = .ok (.iload_n 2, 1) := by decide +kernel
theorem dX1_passMinute_29 : decode cX1_passMinute 29 = .ok (.iload 5, 2) := by decide +kernel
theorem dX1_passMinute_31 : decode cX1_passMinute 31 = .ok (.iadd, 1) := by decide +kernel
theorem dX1_passMinute_32 : decode cX1_passMinute 32 = .ok (.laload, 1) := by decide +kernel
theorem dX1_passMinute_33 : decode cX1_passMinute 33 = .ok (.lstore 6, 2) := by decide +kernel
theorem dX1_passMinute_35 : decode cX1_passMinute 35 = .ok (.lload 6, 2) := by decide +kernel
theorem dX1_passMinute_37 : decode cX1_passMinute 37 = .ok (.ldc2_w 34, 3) := by decide +kernel
theorem dX1_passMinute_40 : decode cX1_passMinute 40 = .ok (.lcmp, 1) := by decide +kernel
theorem dX1_passMinute_41 : decode cX1_passMinute 41 = .ok (.ifCond .eq 31, 3) := by decide +kernel
theorem dX1_passMinute_44 : decode cX1_passMinute 44 = .ok (.aload_n 0, 1) := by decide +kernel
theorem dX1_passMinute_45 : decode cX1_passMinute 45 = .ok (.getfield 11, 3) := by decide +kernel
theorem dX1_passMinute_48 : decode cX1_passMinute 48 = .ok (.iload_n 2, 1) := by decide +kernel
theorem dX1_passMinute_49 : decode cX1_passMinute 49 = .ok (.iload 5, 2) := by decide +kernel
theorem dX1_passMinute_51 : decode cX1_passMinute 51 = .ok (.iadd, 1) := by decide +kernel
theorem dX1_passMinute_52 : decode cX1_passMinute 52 = .ok (.ldc2_w 34, 3) := by decide +kernel
theorem dX1_passMinute_55 : decode cX1_passMinute 55 = .ok (.lastore, 1) := by decide +kernel
theorem dX1_passMinute_56 : decode cX1_passMinute 56 = .ok (.lload_n 3, 1) := by decide +kernel
theorem dX1_passMinute_57 : decode cX1_passMinute 57 = .ok (.lload 6, 2) := by decide +kernel
theorem dX1_passMinute_59 : decode cX1_passMinute 59 = .ok (.invokestatic 62, 3) := by decide +kernel
theorem dX1_passMinute_62 : decode cX1_passMinute 62 = .ok (.lstore_n 3, 1) := by decide +kernel
theorem dX1_passMinute_63 : decode cX1_passMinute 63 = .ok (.aload_n 0, 1) := by decide +kernel
theorem dX1_passMinute_64 : decode cX1_passMinute 64 = .ok (.iload_n 1, 1) := by decide +kernel
theorem dX1_passMinute_65 : decode cX1_passMinute 65 = .ok (.iload 5, 2) := by decide +kernel
theorem dX1_passMinute_67 : decode cX1_passMinute 67 = .ok (.lload 6, 2) := by decide +kernel
theorem dX1_passMinute_69 : decode cX1_passMinute 69 = .ok (.invokevirtual 68, 3) := by decide +kernel
theorem dX1_passMinute_72 : decode cX1_passMinute 72 = .ok (.iinc 5 1, 3) := by decide +kernel
theorem dX1_passMinute_75 : decode cX1_passMinute 75 = .ok (.goto (-59), 3) := by decide +kernel
theorem dX1_passMinute_78 : decode cX1_passMinute 78 = .ok (.lload_n 3, 1) := by decide +kernel
theorem dX1_passMinute_79 : decode cX1_passMinute 79 = .ok (.lreturn, 1) := by decide +kernel
theorem dX1_turnSets_0 : decode cX1_turnSets 0 = .ok (.iconst 0, 1) := by decide +kernel
theorem dX1_turnSets_1 : decode cX1_turnSets 1 = .ok (.istore 5, 2) := by decide +kernel
theorem dX1_turnSets_3 : decode cX1_turnSets 3 = .ok (.iload 5, 2) := by decide +kernel
theorem dX1_turnSets_5 : decode cX1_turnSets 5 = .ok (.bipush 8, 2) := by decide +kernel
theorem dX1_turnSets_7 : decode cX1_turnSets 7 = .ok (.if_icmp .ge 169, 3) := by decide +kernel
theorem dX1_turnSets_10 : decode cX1_turnSets 10 = .ok (.iload_n 2, 1) := by decide +kernel
theorem dX1_turnSets_11 : decode cX1_turnSets 11 = .ok (.bipush 100, 2) := by decide +kernel
theorem dX1_turnSets_13 : decode cX1_turnSets 13 = .ok (.idiv, 1) := by decide +kernel
theorem dX1_turnSets_14 : decode cX1_turnSets 14 = .ok (.aload_n 0, 1) := by decide +kernel
theorem dX1_turnSets_15 : decode cX1_turnSets 15 = .ok (.getfield 36, 3) := by decide +kernel
theorem dX1_turnSets_18 : decode cX1_turnSets 18 = .ok (.iload 5, 2) := by decide +kernel
theorem dX1_turnSets_20 : decode cX1_turnSets 20 = .ok (.iconst 1, 1) := by decide +kernel
theorem dX1_turnSets_21 : decode cX1_turnSets 21 = .ok (.iand, 1) := by decide +kernel
theorem dX1_turnSets_22 : decode cX1_turnSets 22 = .ok (.invokestatic 72, 3) := by decide +kernel
theorem dX1_turnSets_25 : decode cX1_turnSets 25 = .ok (.istore 6, 2) := by decide +kernel
theorem dX1_turnSets_27 : decode cX1_turnSets 27 = .ok (.iload_n 2, 1) := by decide +kernel
theorem dX1_turnSets_28 : decode cX1_turnSets 28 = .ok (.bipush 10, 2) := by decide +kernel
theorem dX1_turnSets_30 : decode cX1_turnSets 30 = .ok (.idiv, 1) := by decide +kernel
theorem dX1_turnSets_31 : decode cX1_turnSets 31 = .ok (.bipush 10, 2) := by decide +kernel
theorem dX1_turnSets_33 : decode cX1_turnSets 33 = .ok (.irem, 1) := by decide +kernel
theorem dX1_turnSets_34 : decode cX1_turnSets 34 = .ok (.aload_n 0, 1) := by decide +kernel
theorem dX1_turnSets_35 : decode cX1_turnSets 35 = .ok (.getfield 39, 3) := by decide +kernel
theorem dX1_turnSets_38 : decode cX1_turnSets 38 = .ok (.iload 5, 2) := by decide +kernel
theorem dX1_turnSets_40 : decode cX1_turnSets 40 = .ok (.iconst 2, 1) := by decide +kernel
theorem dX1_turnSets_41 : decode cX1_turnSets 41 = .ok (.iand, 1) := by decide +kernel
theorem dX1_turnSets_42 : decode cX1_turnSets 42 = .ok (.invokestatic 72, 3) := by decide +kernel
theorem dX1_turnSets_45 : decode cX1_turnSets 45 = .ok (.istore 7, 2) := by decide +kernel
theorem dX1_turnSets_47 : decode cX1_turnSets 47 = .ok (.iload_n 2, 1) := by decide +kernel
theorem dX1_turnSets_48 : decode cX1_turnSets 48 = .ok (.bipush 10, 2) := by decide +kernel
theorem dX1_turnSets_50 : decode cX1_turnSets 50 = .ok (.irem, 1) := by decide +kernel
theorem dX1_turnSets_51 : decode cX1_turnSets 51 = .ok (.aload_n 0, 1) := by decide +kernel
theorem dX1_turnSets_52 : decode cX1_turnSets 52 = .ok (.getfield 42, 3) := by decide +kernel
theorem dX1_turnSets_55 : decode cX1_turnSets 55 = .ok (.iload 5, 2) := by decide +kernel
theorem dX1_turnSets_57 : decode cX1_turnSets 57 = .ok (.iconst 4, 1) := by decide +kernel
theorem dX1_turnSets_58 : decode cX1_turnSets 58 = .ok (.iand, 1) := by decide +kernel
theorem dX1_turnSets_59 : decode cX1_turnSets 59 = .ok (.invokestatic 72, 3) := by decide +kernel
theorem dX1_turnSets_62 : decode cX1_turnSets 62 = .ok (.istore 8, 2) := by decide +kernel
theorem dX1_turnSets_64 : decode cX1_turnSets 64 = .ok (.iload 6, 2) := by decide +kernel
theorem dX1_turnSets_66 : decode cX1_turnSets 66 = .ok (.iload 7, 2) := by decide +kernel
theorem dX1_turnSets_68 : decode cX1_turnSets 68 = .ok (.iload 8, 2) := by decide +kernel
theorem dX1_turnSets_70 : decode cX1_turnSets 70 = .ok (.invokestatic 76, 3) := by decide +kernel
theorem dX1_turnSets_73 : decode cX1_turnSets 73 = .ok (.invokestatic 76, 3) := by decide +kernel
theorem dX1_turnSets_76 : decode cX1_turnSets 76 = .ok (.istore 9, 2) := by decide +kernel
theorem dX1_turnSets_78 : decode cX1_turnSets 78 = .ok (.iload_n 1, 1) := by decide +kernel
theorem dX1_turnSets_79 : decode cX1_turnSets 79 = .ok (.iload 9, 2) := by decide +kernel
theorem dX1_turnSets_81 : decode cX1_turnSets 81 = .ok (.iadd, 1) := by decide +kernel
theorem dX1_turnSets_82 : decode cX1_turnSets 82 = .ok (.istore 10, 2) := by decide +kernel
theorem dX1_turnSets_84 : decode cX1_turnSets 84 = .ok (.iload 9, 2) := by decide +kernel
theorem dX1_turnSets_86 : decode cX1_turnSets 86 = .ok (.ifCond .le 84, 3) := by decide +kernel
theorem dX1_turnSets_89 : decode cX1_turnSets 89 = .ok (.iload 10, 2) := by decide +kernel
theorem dX1_turnSets_91 : decode cX1_turnSets 91 = .ok (.bipush 30, 2) := by decide +kernel
theorem dX1_turnSets_93 : decode cX1_turnSets 93 = .ok (.if_icmp .gt 77, 3) := by decide +kernel
theorem dX1_turnSets_96 : decode cX1_turnSets 96 = .ok (.iconst 0, 1) := by decide +kernel
theorem dX1_turnSets_97 : decode cX1_turnSets 97 = .ok (.iload 6, 2) := by decide +kernel
theorem dX1_turnSets_99 : decode cX1_turnSets 99 = .ok (.iload 9, 2) := by decide +kernel
theorem dX1_turnSets_101 : decode cX1_turnSets 101 = .ok (.isub, 1) := by decide +kernel
theorem dX1_turnSets_102 : decode cX1_turnSets 102 = .ok (.invokestatic 80, 3) := by decide +kernel
theorem dX1_turnSets_105 : decode cX1_turnSets 105 = .ok (.bipush 100, 2) := by decide +kernel
theorem dX1_turnSets_107 : decode cX1_turnSets 107 = .ok (.imul, 1) := by decide +kernel
theorem dX1_turnSets_108 : decode cX1_turnSets 108 = .ok (.iconst 0, 1) := by decide +kernel
theorem dX1_turnSets_109 : decode cX1_turnSets 109 = .ok (.iload 7, 2) := by decide +kernel
theorem dX1_turnSets_111 : decode cX1_turnSets 111 = .ok (.iload 9, 2) := by decide +kernel
theorem dX1_turnSets_113 : decode cX1_turnSets 113 = .ok (.isub, 1) := by decide +kernel
theorem dX1_turnSets_114 : decode cX1_turnSets 114 = .ok (.invokestatic 80, 3) := by decide +kernel
theorem dX1_turnSets_117 : decode cX1_turnSets 117 = .ok (.bipush 10, 2) := by decide +kernel
theorem dX1_turnSets_119 : decode cX1_turnSets 119 = .ok (.imul, 1) := by decide +kernel
theorem dX1_turnSets_120 : decode cX1_turnSets 120 = .ok (.iadd, 1) := by decide +kernel
theorem dX1_turnSets_121 : decode cX1_turnSets 121 = .ok (.iconst 0, 1) := by decide +kernel
theorem dX1_turnSets_122 : decode cX1_turnSets 122 = .ok (.iload 8, 2) := by decide +kernel
theorem dX1_turnSets_124 : decode cX1_turnSets 124 = .ok (.iload 9, 2) := by decide +kernel
theorem dX1_turnSets_126 : decode cX1_turnSets 126 = .ok (.isub, 1) := by decide +kernel
theorem dX1_turnSets_127 : decode cX1_turnSets 127 = .ok (.invokestatic 80, 3) := by decide +kernel
theorem dX1_turnSets_130 : decode cX1_turnSets 130 = .ok (.iadd, 1) := by decide +kernel
theorem dX1_turnSets_131 : decode cX1_turnSets 131 = .ok (.istore 11, 2) := by decide +kernel
theorem dX1_turnSets_133 : decode cX1_turnSets 133 = .ok (.iload 10, 2) := by decide +kernel
theorem dX1_turnSets_135 : decode cX1_turnSets 135 = .ok (.bipush 10, 2) := by decide +kernel
theorem dX1_turnSets_137 : decode cX1_turnSets 137 = .ok (.irem, 1) := by decide +kernel
theorem dX1_turnSets_138 : decode cX1_turnSets 138 = .ok (.sipush 1000, 3) := by decide +kernel
theorem dX1_turnSets_141 : decode cX1_turnSets 141 = .ok (.imul, 1) := by decide +kernel
theorem dX1_turnSets_142 : decode cX1_turnSets 142 = .ok (.iload 11, 2) := by decide +kernel
theorem dX1_turnSets_144 : decode cX1_turnSets 144 = .ok (.iadd, 1) := by decide +kernel
theorem dX1_turnSets_145 : decode cX1_turnSets 145 = .ok (.istore 12, 2) := by decide +kernel
theorem dX1_turnSets_147 : decode cX1_turnSets 147 = .ok (.aload_n 0, 1) := by decide +kernel
theorem dX1_turnSets_148 : decode cX1_turnSets 148 = .ok (.getfield 11, 3) := by decide +kernel
theorem dX1_turnSets_151 : decode cX1_turnSets 151 = .ok (.iload 12, 2) := by decide +kernel
theorem dX1_turnSets_153 : decode cX1_turnSets 153 = .ok (.aload_n 0, 1) := by decide +kernel
theorem dX1_turnSets_154 : decode cX1_turnSets 154 = .ok (.getfield 11, 3) := by decide +kernel
theorem dX1_turnSets_157 : decode cX1_turnSets 157 = .ok (.iload 12, 2) := by decide +kernel
theorem dX1_turnSets_159 : decode cX1_turnSets 159 = .ok (.laload, 1) := by decide +kernel
theorem dX1_turnSets_160 : decode cX1_turnSets 160 = .ok (.lload_n 3, 1) := by decide +kernel
theorem dX1_turnSets_161 : decode cX1_turnSets 161 = .ok (.iload 5, 2) := by decide +kernel
theorem dX1_turnSets_163 : decode cX1_turnSets 163 = .ok (.invokestatic 83, 3) := by decide +kernel
theorem dX1_turnSets_166 : decode cX1_turnSets 166 = .ok (.invokestatic 62, 3) := by decide +kernel
theorem dX1_turnSets_169 : decode cX1_turnSets 169 = .ok (.lastore, 1) := by decide +kernel
theorem dX1_turnSets_170 : decode cX1_turnSets 170 = .ok (.iinc 5 1, 3) := by decide +kernel
theorem dX1_turnSets_173 : decode cX1_turnSets 173 = .ok (.goto (-170), 3) := by decide +kernel
theorem dX1_turnSets_176 : decode cX1_turnSets 176 = .ok (.return_, 1) := by decide +kernel
theorem dX1_turned_0 : decode cX1_turned 0 = .ok (.iload_n 2, 1) := by decide +kernel
theorem dX1_turned_1 : decode cX1_turned 1 = .ok (.ifCond .ne 7, 3) := by decide +kernel
theorem dX1_turned_4 : decode cX1_turned 4 = .ok (.iload_n 0, 1) := by decide +kernel
theorem dX1_turned_5 : decode cX1_turned 5 = .ok (.goto 6, 3) := by decide +kernel
theorem dX1_turned_8 : decode cX1_turned 8 = .ok (.iload_n 1, 1) := by decide +kernel
theorem dX1_turned_9 : decode cX1_turned 9 = .ok (.iload_n 0, 1) := by decide +kernel
theorem dX1_turned_10 : decode cX1_turned 10 = .ok (.isub, 1) := by decide +kernel
theorem dX1_turned_11 : decode cX1_turned 11 = .ok (.ireturn, 1) := by decide +kernel
theorem dX1_sooner_0 : decode cX1_sooner 0 = .ok (.iload_n 0, 1) := by decide +kernel
theorem dX1_sooner_1 : decode cX1_sooner 1 = .ok (.ifCond .ne 5, 3) := by decide +kernel
theorem dX1_sooner_4 : decode cX1_sooner 4 = .ok (.iload_n 1, 1) := by decide +kernel
theorem dX1_sooner_5 : decode cX1_sooner 5 = .ok (.ireturn, 1) := by decide +kernel
theorem dX1_sooner_6 : decode cX1_sooner 6 = .ok (.iload_n 1, 1) := by decide +kernel
theorem dX1_sooner_7 : decode cX1_sooner 7 = .ok (.ifCond .ne 7, 3) := by decide +kernel
theorem dX1_sooner_10 : decode cX1_sooner 10 = .ok (.iload_n 0, 1) := by decide +kernel
theorem dX1_sooner_11 : decode cX1_sooner 11 = .ok (.goto 8, 3) := by decide +kernel
theorem dX1_sooner_14 : decode cX1_sooner 14 = .ok (.iload_n 0, 1) := by decide +kernel
theorem dX1_sooner_15 : decode cX1_sooner 15 = .ok (.iload_n 1, 1) := by decide +kernel
theorem dX1_sooner_16 : decode cX1_sooner 16 = .ok (.invokestatic 87, 3) := by decide +kernel
theorem dX1_sooner_19 : decode cX1_sooner 19 = .ok (.ireturn, 1) := by decide +kernel
theorem dX1_withSet_0 : decode cX1_withSet 0 = .ok (.lload_n 0, 1) := by decide +kernel
theorem dX1_withSet_1 : decode cX1_withSet 1 = .ok (.ldc2_w 57, 3) := by decide +kernel
theorem dX1_withSet_4 : decode cX1_withSet 4 = .ok (.lrem, 1) := by decide +kernel
theorem dX1_withSet_5 : decode cX1_withSet 5 = .ok (.l2i, 1) := by decide +kernel
theorem dX1_withSet_6 : decode cX1_withSet 6 = .ok (.istore_n 3, 1) := by decide +kernel
theorem dX1_withSet_7 : decode cX1_withSet 7 = .ok (.lload_n 0, 1) := by decide +kernel
theorem dX1_withSet_8 : decode cX1_withSet 8 = .ok (.iload_n 2, 1) := by decide +kernel
theorem dX1_withSet_9 : decode cX1_withSet 9 = .ok (.invokestatic 89, 3) := by decide +kernel
theorem dX1_withSet_12 : decode cX1_withSet 12 = .ok (.i2l, 1) := by decide +kernel
theorem dX1_withSet_13 : decode cX1_withSet 13 = .ok (.ldc2_w 55, 3) := by decide +kernel
theorem dX1_withSet_16 : decode cX1_withSet 16 = .ok (.lmul, 1) := by decide +kernel
theorem dX1_withSet_17 : decode cX1_withSet 17 = .ok (.ladd, 1) := by decide +kernel
theorem dX1_withSet_18 : decode cX1_withSet 18 = .ok (.lconst 1, 1) := by decide +kernel
theorem dX1_withSet_19 : decode cX1_withSet 19 = .ok (.ladd, 1) := by decide +kernel
theorem dX1_withSet_20 : decode cX1_withSet 20 = .ok (.lstore 4, 2) := by decide +kernel
theorem dX1_withSet_22 : decode cX1_withSet 22 = .ok (.iload_n 3, 1) := by decide +kernel
theorem dX1_withSet_23 : decode cX1_withSet 23 = .ok (.ifCond .lt 25, 3) := by decide +kernel
theorem dX1_withSet_26 : decode cX1_withSet 26 = .ok (.iload_n 3, 1) := by decide +kernel
theorem dX1_withSet_27 : decode cX1_withSet 27 = .ok (.bipush 9, 2) := by decide +kernel
theorem dX1_withSet_29 : decode cX1_withSet 29 = .ok (.if_icmp .ge 19, 3) := by decide +kernel
theorem dX1_withSet_32 : decode cX1_withSet 32 = .ok (.lload 4, 2) := by decide +kernel
theorem dX1_withSet_34 : decode cX1_withSet 34 = .ok (.iload_n 2, 1) := by decide +kernel
theorem dX1_withSet_35 : decode cX1_withSet 35 = .ok (.iconst 1, 1) := by decide +kernel
theorem dX1_withSet_36 : decode cX1_withSet 36 = .ok (.iadd, 1) := by decide +kernel
theorem dX1_withSet_37 : decode cX1_withSet 37 = .ok (.i2l, 1) := by decide +kernel
theorem dX1_withSet_38 : decode cX1_withSet 38 = .ok (.getstatic 59, 3) := by decide +kernel
theorem dX1_withSet_41 : decode cX1_withSet 41 = .ok (.iload_n 3, 1) := by decide +kernel
theorem dX1_withSet_42 : decode cX1_withSet 42 = .ok (.laload, 1) := by decide +kernel
theorem dX1_withSet_43 : decode cX1_withSet 43 = .ok (.lmul, 1) := by decide +kernel
theorem dX1_withSet_44 : decode cX1_withSet 44 = .ok (.ladd, 1) := by decide +kernel
theorem dX1_withSet_45 : decode cX1_withSet 45 = .ok (.goto 5, 3) := by decide +kernel
theorem dX1_withSet_48 : decode cX1_withSet 48 = .ok (.lload 4, 2) := by decide +kernel
theorem dX1_withSet_50 : decode cX1_withSet 50 = .ok (.lreturn, 1) := by decide +kernel
theorem dX2_init_0 : decode cX2_init 0 = .ok (.aload_n 0, 1) := by decide +kernel
theorem dX2_init_1 : decode cX2_init 1 = .ok (.invokespecial 3, 3) := by decide +kernel
theorem dX2_init_4 : decode cX2_init 4 = .ok (.aload_n 0, 1) := by decide +kernel
theorem dX2_init_5 : decode cX2_init 5 = .ok (.sipush 160, 3) := by decide +kernel
theorem dX2_init_8 : decode cX2_init 8 = .ok (.newarray .int, 2) := by decide +kernel
theorem dX2_init_10 : decode cX2_init 10 = .ok (.putfield 9, 3) := by decide +kernel
theorem dX2_init_13 : decode cX2_init 13 = .ok (.aload_n 0, 1) := by decide +kernel
theorem dX2_init_14 : decode cX2_init 14 = .ok (.sipush 160, 3) := by decide +kernel
theorem dX2_init_17 : decode cX2_init 17 = .ok (.newarray .int, 2) := by decide +kernel
theorem dX2_init_19 : decode cX2_init 19 = .ok (.putfield 15, 3) := by decide +kernel
theorem dX2_init_22 : decode cX2_init 22 = .ok (.aload_n 0, 1) := by decide +kernel
theorem dX2_init_23 : decode cX2_init 23 = .ok (.iconst 3, 1) := by decide +kernel
theorem dX2_init_24 : decode cX2_init 24 = .ok (.newarray .int, 2) := by decide +kernel
theorem dX2_init_26 : decode cX2_init 26 = .ok (.putfield 18, 3) := by decide +kernel
theorem dX2_init_29 : decode cX2_init 29 = .ok (.return_, 1) := by decide +kernel
theorem dX2_add_0 : decode cX2_add 0 = .ok (.aload_n 0, 1) := by decide +kernel
theorem dX2_add_1 : decode cX2_add 1 = .ok (.getfield 21, 3) := by decide +kernel
theorem dX2_add_4 : decode cX2_add 4 = .ok (.sipush 160, 3) := by decide +kernel
theorem dX2_add_7 : decode cX2_add 7 = .ok (.if_icmp .lt 6, 3) := by decide +kernel
theorem dX2_add_10 : decode cX2_add 10 = .ok (.bipush (-4), 2) := by decide +kernel
theorem dX2_add_12 : decode cX2_add 12 = .ok (.ireturn, 1) := by decide +kernel
theorem dX2_add_13 : decode cX2_add 13 = .ok (.aload_n 0, 1) := by decide +kernel
theorem dX2_add_14 : decode cX2_add 14 = .ok (.getfield 9, 3) := by decide +kernel
theorem dX2_add_17 : decode cX2_add 17 = .ok (.aload_n 0, 1) := by decide +kernel
theorem dX2_add_18 : decode cX2_add 18 = .ok (.getfield 21, 3) := by decide +kernel
theorem dX2_add_21 : decode cX2_add 21 = .ok (.iload_n 1, 1) := by decide +kernel
theorem dX2_add_22 : decode cX2_add 22 = .ok (.iastore, 1) := by decide +kernel
theorem dX2_add_23 : decode cX2_add 23 = .ok (.aload_n 0, 1) := by decide +kernel
theorem dX2_add_24 : decode cX2_add 24 = .ok (.dup, 1) := by decide +kernel
theorem dX2_add_25 : decode cX2_add 25 = .ok (.getfield 21, 3) := by decide +kernel
theorem dX2_add_28 : decode cX2_add 28 = .ok (.iconst 1, 1) := by decide +kernel
theorem dX2_add_29 : decode cX2_add 29 = .ok (.iadd, 1) := by decide +kernel
theorem dX2_add_30 : decode cX2_add 30 = .ok (.putfield 21, 3) := by decide +kernel
theorem dX2_add_33 : decode cX2_add 33 = .ok (.aload_n 0, 1) := by decide +kernel
theorem dX2_add_34 : decode cX2_add 34 = .ok (.getfield 21, 3) := by decide +kernel
theorem dX2_add_37 : decode cX2_add 37 = .ok (.ireturn, 1) := by decide +kernel
theorem dX2_read_0 : decode cX2_read 0 = .ok (.aload_n 0, 1) := by decide +kernel
theorem dX2_read_1 : decode cX2_read 1 = .ok (.iconst 0, 1) := by decide +kernel
theorem dX2_read_2 : decode cX2_read 2 = .ok (.putfield 25, 3) := by decide +kernel
theorem dX2_read_5 : decode cX2_read 5 = .ok (.aload_n 0, 1) := by decide +kernel
theorem dX2_read_6 : decode cX2_read 6 = .ok (.iconst 0, 1) := by decide +kernel
theorem dX2_read_7 : decode cX2_read 7 = .ok (.putfield 28, 3) := by decide +kernel
theorem dX2_read_10 : decode cX2_read 10 = .ok (.aload_n 0, 1) := by decide +kernel
theorem dX2_read_11 : decode cX2_read 11 = .ok (.invokevirtual 31, 3) := by decide +kernel
theorem dX2_read_14 : decode cX2_read 14 = .ok (.iconst 0, 1) := by decide +kernel
theorem dX2_read_15 : decode cX2_read 15 = .ok (.istore_n 1, 1) := by decide +kernel
theorem dX2_read_16 : decode cX2_read 16 = .ok (.iload_n 1, 1) := by decide +kernel
theorem dX2_read_17 : decode cX2_read 17 = .ok (.iconst 3, 1) := by decide +kernel
theorem dX2_read_18 : decode cX2_read 18 = .ok (.if_icmp .ge 64, 3) := by decide +kernel
theorem dX2_read_21 : decode cX2_read 21 = .ok (.aload_n 0, 1) := by decide +kernel
theorem dX2_read_22 : decode cX2_read 22 = .ok (.getfield 34, 3) := by decide +kernel
theorem dX2_read_25 : decode cX2_read 25 = .ok (.iconst 4, 1) := by decide +kernel
theorem dX2_read_26 : decode cX2_read 26 = .ok (.iload_n 1, 1) := by decide +kernel
theorem dX2_read_27 : decode cX2_read 27 = .ok (.iadd, 1) := by decide +kernel
theorem dX2_read_28 : decode cX2_read 28 = .ok (.if_icmp .eq 8, 3) := by decide +kernel
theorem dX2_read_31 : decode cX2_read 31 = .ok (.aload_n 0, 1) := by decide +kernel
theorem dX2_read_32 : decode cX2_read 32 = .ok (.getfield 37, 3) := by decide +kernel
theorem dX2_read_35 : decode cX2_read 35 = .ok (.ireturn, 1) := by decide +kernel
theorem dX2_read_36 : decode cX2_read 36 = .ok (.aload_n 0, 1) := by decide +kernel
theorem dX2_read_37 : decode cX2_read 37 = .ok (.invokevirtual 31, 3) := by decide +kernel
theorem dX2_read_40 : decode cX2_read 40 = .ok (.aload_n 0, 1) := by decide +kernel
theorem dX2_read_41 : decode cX2_read 41 = .ok (.iconst 0, 1) := by decide +kernel
theorem dX2_read_42 : decode cX2_read 42 = .ok (.invokevirtual 40, 3) := by decide +kernel
theorem dX2_read_45 : decode cX2_read 45 = .ok (.ifCond .eq 12, 3) := by decide +kernel
theorem dX2_read_48 : decode cX2_read 48 = .ok (.aload_n 0, 1) := by decide +kernel
theorem dX2_read_49 : decode cX2_read 49 = .ok (.getfield 34, 3) := by decide +kernel
theorem dX2_read_52 : decode cX2_read 52 = .ok (.bipush 59, 2) := by decide +kernel
theorem dX2_read_54 : decode cX2_read 54 = .ok (.if_icmp .eq 8, 3) := by decide +kernel
theorem dX2_read_57 : decode cX2_read 57 = .ok (.aload_n 0, 1) := by decide +kernel
theorem dX2_read_58 : decode cX2_read 58 = .ok (.getfield 37, 3) := by decide +kernel
theorem dX2_read_61 : decode cX2_read 61 = .ok (.ireturn, 1) := by decide +kernel
theorem dX2_read_62 : decode cX2_read 62 = .ok (.aload_n 0, 1) := by decide +kernel
theorem dX2_read_63 : decode cX2_read 63 = .ok (.getfield 18, 3) := by decide +kernel
theorem dX2_read_66 : decode cX2_read 66 = .ok (.iload_n 1, 1) := by decide +kernel
theorem dX2_read_67 : decode cX2_read 67 = .ok (.aload_n 0, 1) := by decide +kernel
theorem dX2_read_68 : decode cX2_read 68 = .ok (.getfield 28, 3) := by decide +kernel
theorem dX2_read_71 : decode cX2_read 71 = .ok (.iastore, 1) := by decide +kernel
theorem dX2_read_72 : decode cX2_read 72 = .ok (.aload_n 0, 1) := by decide +kernel
theorem dX2_read_73 : decode cX2_read 73 = .ok (.invokevirtual 31, 3) := by decide +kernel
theorem dX2_read_76 : decode cX2_read 76 = .ok (.iinc 1 1, 3) := by decide +kernel
theorem dX2_read_79 : decode cX2_read 79 = .ok (.goto (-63), 3) := by decide +kernel
theorem dX2_read_82 : decode cX2_read 82 = .ok (.aload_n 0, 1) := by decide +kernel
theorem dX2_read_83 : decode cX2_read 83 = .ok (.getfield 34, 3) := by decide +kernel
theorem dX2_read_86 : decode cX2_read 86 = .ok (.ifCond .ne 7, 3) := by decide +kernel
theorem dX2_read_89 : decode cX2_read 89 = .ok (.iconst (-1), 1) := by decide +kernel
theorem dX2_read_90 : decode cX2_read 90 = .ok (.goto 7, 3) := by decide +kernel
theorem dX2_read_93 : decode cX2_read 93 = .ok (.aload_n 0, 1) := by decide +kernel
theorem dX2_read_94 : decode cX2_read 94 = .ok (.getfield 37, 3) := by decide +kernel
theorem dX2_read_97 : decode cX2_read 97 = .ok (.ireturn, 1) := by decide +kernel
theorem dX2_readEither_0 : decode cX2_readEither 0 = .ok (.aload_n 0, 1) := by decide +kernel
theorem dX2_readEither_1 : decode cX2_readEither 1 = .ok (.iload_n 1, 1) := by decide +kernel
theorem dX2_readEither_2 : decode cX2_readEither 2 = .ok (.invokevirtual 44, 3) := by decide +kernel
theorem dX2_readEither_5 : decode cX2_readEither 5 = .ok (.istore_n 2, 1) := by decide +kernel
theorem dX2_readEither_6 : decode cX2_readEither 6 = .ok (.iconst 0, 1) := by decide +kernel
theorem dX2_readEither_7 : decode cX2_readEither 7 = .ok (.istore_n 3, 1) := by decide +kernel
theorem dX2_readEither_8 : decode cX2_readEither 8 = .ok (.iload_n 3, 1) := by decide +kernel
theorem dX2_readEither_9 : decode cX2_readEither 9 = .ok (.sipush 160, 3) := by decide +kernel
theorem dX2_readEither_12 : decode cX2_readEither 12 = .ok (.if_icmp .ge 39, 3) := by decide +kernel
theorem dX2_readEither_15 : decode cX2_readEither 15 = .ok (.iload_n 2, 1) := by decide +kernel
theorem dX2_readEither_16 : decode cX2_readEither 16 = .ok (.ifCond .eq 35, 3) := by decide +kernel
theorem dX2_readEither_19 : decode cX2_readEither 19 = .ok (.aload_n 0, 1) := by decide +kernel
theorem dX2_readEither_20 : decode cX2_readEither 20 = .ok (.getfield 34, 3) := by decide +kernel
theorem dX2_readEither_23 : decode cX2_readEither 23 = .ok (.bipush 7, 2) := by decide +kernel
theorem dX2_readEither_25 : decode cX2_readEither 25 = .ok (.if_icmp .ne 26, 3) := by decide +kernel
theorem dX2_readEither_28 : decode cX2_readEither 28 = .ok (.aload_n 0, 1) := by decide +kernel
theorem dX2_readEither_29 : decode cX2_readEither 29 = .ok (.invokevirtual 31, 3) := by decide +kernel
theorem dX2_readEither_32 : decode cX2_readEither 32 = .ok (.aload_n 0, 1) := by decide +kernel
theorem dX2_readEither_33 : decode cX2_readEither 33 = .ok (.iload_n 1, 1) := by decide +kernel
theorem dX2_readEither_34 : decode cX2_readEither 34 = .ok (.invokevirtual 44, 3) := by decide +kernel
theorem dX2_readEither_37 : decode cX2_readEither 37 = .ok (.istore_n 2, 1) := by decide +kernel
theorem dX2_readEither_38 : decode cX2_readEither 38 = .ok (.aload_n 0, 1) := by decide +kernel
theorem dX2_readEither_39 : decode cX2_readEither 39 = .ok (.sipush 20007, 3) := by decide +kernel
theorem dX2_readEither_42 : decode cX2_readEither 42 = .ok (.invokevirtual 49, 3) := by decide +kernel
theorem dX2_readEither_45 : decode cX2_readEither 45 = .ok (.iinc 3 1, 3) := by decide +kernel
theorem dX2_readEither_48 : decode cX2_readEither 48 = .ok (.goto (-40), 3) := by decide +kernel
theorem dX2_readEither_51 : decode cX2_readEither 51 = .ok (.iload_n 2, 1) := by decide +kernel
theorem dX2_readEither_52 : decode cX2_readEither 52 = .ok (.ireturn, 1) := by decide +kernel
theorem dX2_readBoth_0 : decode cX2_readBoth 0 = .ok (.aload_n 0, 1) := by decide +kernel
theorem dX2_readBoth_1 : decode cX2_readBoth 1 = .ok (.iload_n 1, 1) := by decide +kernel
theorem dX2_readBoth_2 : decode cX2_readBoth 2 = .ok (.invokevirtual 53, 3) := by decide +kernel
theorem dX2_readBoth_5 : decode cX2_readBoth 5 = .ok (.istore_n 2, 1) := by decide +kernel
theorem dX2_readBoth_6 : decode cX2_readBoth 6 = .ok (.iconst 0, 1) := by decide +kernel
theorem dX2_readBoth_7 : decode cX2_readBoth 7 = .ok (.istore_n 3, 1) := by decide +kernel
theorem dX2_readBoth_8 : decode cX2_readBoth 8 = .ok (.iload_n 3, 1) := by decide +kernel
theorem dX2_readBoth_9 : decode cX2_readBoth 9 = .ok (.sipush 160, 3) := by decide +kernel
theorem dX2_readBoth_12 : decode cX2_readBoth 12 = .ok (.if_icmp .ge 39, 3) := by decide +kernel
theorem dX2_readBoth_15 : decode cX2_readBoth 15 = .ok (.iload_n 2, 1) := by decide +kernel
theorem dX2_readBoth_16 : decode cX2_readBoth 16 = .ok (.ifCond .eq 35, 3) := by decide +kernel
theorem dX2_readBoth_19 : decode cX2_readBoth 19 = .ok (.aload_n 0, 1) := by decide +kernel
theorem dX2_readBoth_20 : decode cX2_readBoth 20 = .ok (.getfield 34, 3) := by decide +kernel
theorem dX2_readBoth_23 : decode cX2_readBoth 23 = .ok (.bipush 8, 2) := by decide +kernel
theorem dX2_readBoth_25 : decode cX2_readBoth 25 = .ok (.if_icmp .ne 26, 3) := by decide +kernel
theorem dX2_readBoth_28 : decode cX2_readBoth 28 = .ok (.aload_n 0, 1) := by decide +kernel
theorem dX2_readBoth_29 : decode cX2_readBoth 29 = .ok (.invokevirtual 31, 3) := by decide +kernel
theorem dX2_readBoth_32 : decode cX2_readBoth 32 = .ok (.aload_n 0, 1) := by decide +kernel
theorem dX2_readBoth_33 : decode cX2_readBoth 33 = .ok (.iload_n 1, 1) := by decide +kernel
theorem dX2_readBoth_34 : decode cX2_readBoth 34 = .ok (.invokevirtual 53, 3) := by decide +kernel
theorem dX2_readBoth_37 : decode cX2_readBoth 37 = .ok (.istore_n 2, 1) := by decide +kernel
theorem dX2_readBoth_38 : decode cX2_readBoth 38 = .ok (.aload_n 0, 1) := by decide +kernel
theorem dX2_readBoth_39 : decode cX2_readBoth 39 = .ok (.sipush 20008, 3) := by decide +kernel
theorem dX2_readBoth_42 : decode cX2_readBoth 42 = .ok (.invokevirtual 49, 3) := by decide +kernel
theorem dX2_readBoth_45 : decode cX2_readBoth 45 = .ok (.iinc 3 1, 3) := by decide +kernel
theorem dX2_readBoth_48 : decode cX2_readBoth 48 = .ok (.goto (-40), 3) := by decide +kernel
theorem dX2_readBoth_51 : decode cX2_readBoth 51 = .ok (.iload_n 2, 1) := by decide +kernel
theorem dX2_readBoth_52 : decode cX2_readBoth 52 = .ok (.ireturn, 1) := by decide +kernel
theorem dX2_readDenied_0 : decode cX2_readDenied 0 = .ok (.aload_n 0, 1) := by decide +kernel
theorem dX2_readDenied_1 : decode cX2_readDenied 1 = .ok (.getfield 34, 3) := by decide +kernel
theorem dX2_readDenied_4 : decode cX2_readDenied 4 = .ok (.bipush 9, 2) := by decide +kernel
theorem dX2_readDenied_6 : decode cX2_readDenied 6 = .ok (.if_icmp .ne 31, 3) := by decide +kernel
theorem dX2_readDenied_9 : decode cX2_readDenied 9 = .ok (.iload_n 1, 1) := by decide +kernel
theorem dX2_readDenied_10 : decode cX2_readDenied 10 = .ok (.iconst 5, 1) := by decide +kernel
theorem dX2_readDenied_11 : decode cX2_readDenied 11 = .ok (.if_icmp .lt 5, 3) := by decide +kernel
theorem dX2_readDenied_14 : decode cX2_readDenied 14 = .ok (.iconst 0, 1) := by decide +kernel
theorem dX2_readDenied_15 : decode cX2_readDenied 15 = .ok (.ireturn, 1) := by decide +kernel
theorem dX2_readDenied_16 : decode cX2_readDenied 16 = .ok (.aload_n 0, 1) := by decide +kernel
theorem dX2_readDenied_17 : decode cX2_readDenied 17 = .ok (.invokevirtual 31, 3) := by decide +kernel
theorem dX2_readDenied_20 : decode cX2_readDenied 20 = .ok (.aload_n 0, 1) := by decide +kernel
theorem dX2_readDenied_21 : decode cX2_readDenied 21 = .ok (.iload_n 1, 1) := by decide +kernel
theorem dX2_readDenied_22 : decode cX2_readDenied 22 = .ok (.iconst 1, 1) := by decide +kernel
theorem dX2_readDenied_23 : decode cX2_readDenied 23 = .ok (.iadd, 1) := by decide +kernel
theorem dX2_readDenied_24 : decode cX2_readDenied 24 = .ok (.invokevirtual 53, 3) := by decide +kernel
theorem dX2_readDenied_27 : decode cX2_readDenied 27 = .ok (.istore_n 2, 1) := by decide +kernel
theorem dX2_readDenied_28 : decode cX2_readDenied 28 = .ok (.aload_n 0, 1) := by decide +kernel
theorem dX2_readDenied_29 : decode cX2_readDenied 29 = .ok (.sipush 30001, 3) := by decide +kernel
theorem dX2_readDenied_32 : decode cX2_readDenied 32 = .ok (.invokevirtual 49, 3) := by decide +kernel
theorem dX2_readDenied_35 : decode cX2_readDenied 35 = .ok (.iload_n 2, 1) := by decide +kernel
theorem dX2_readDenied_36 : decode cX2_readDenied 36 = .ok (.ireturn, 1) := by decide +kernel
theorem dX2_readDenied_37 : decode cX2_readDenied 37 = .ok (.aload_n 0, 1) := by decide +kernel
theorem dX2_readDenied_38 : decode cX2_readDenied 38 = .ok (.iload_n 1, 1) := by decide +kernel
theorem dX2_readDenied_39 : decode cX2_readDenied 39 = .ok (.invokevirtual 56, 3) := by decide +kernel
theorem dX2_readDenied_42 : decode cX2_readDenied 42 = .ok (.istore_n 2, 1) := by decide +kernel
theorem dX2_readDenied_43 : decode cX2_readDenied 43 = .ok (.iload_n 2, 1) := by decide +kernel
theorem dX2_readDenied_44 : decode cX2_readDenied 44 = .ok (.ifCond .eq 45, 3) := by decide +kernel
theorem dX2_readDenied_47 : decode cX2_readDenied 47 = .ok (.aload_n 0, 1) := by decide +kernel
theorem dX2_readDenied_48 : decode cX2_readDenied 48 = .ok (.getfield 34, 3) := by decide +kernel
theorem dX2_readDenied_51 : decode cX2_readDenied 51 = .ok (.bipush 60, 2) := by decide +kernel
theorem dX2_readDenied_53 : decode cX2_readDenied 53 = .ok (.if_icmp .eq 12, 3) := by decide +kernel
theorem dX2_readDenied_56 : decode cX2_readDenied 56 = .ok (.aload_n 0, 1) := by decide +kernel
theorem dX2_readDenied_57 : decode cX2_readDenied 57 = .ok (.getfield 34, 3) := by decide +kernel
theorem dX2_readDenied_60 : decode cX2_readDenied 60 = .ok (.bipush 61, 2) := by decide +kernel
theorem dX2_readDenied_62 : decode cX2_readDenied 62 = .ok (.if_icmp .ne 27, 3) := by decide +kernel
theorem dX2_readDenied_65 : decode cX2_readDenied 65 = .ok (.aload_n 0, 1) := by decide +kernel
theorem dX2_readDenied_66 : decode cX2_readDenied 66 = .ok (.getfield 34, 3) := by decide +kernel
theorem dX2_readDenied_69 : decode cX2_readDenied 69 = .ok (.istore_n 3, 1) := by decide +kernel
theorem dX2_readDenied_70 : decode cX2_readDenied 70 = .ok (.aload_n 0, 1) := by decide +kernel
theorem dX2_readDenied_71 : decode cX2_readDenied 71 = .ok (.invokevirtual 31, 3) := by decide +kernel
theorem dX2_readDenied_74 : decode cX2_readDenied 74 = .ok (.aload_n 0, 1) := by decide +kernel
theorem dX2_readDenied_75 : decode cX2_readDenied 75 = .ok (.iload_n 1, 1) := by decide +kernel
theorem dX2_readDenied_76 : decode cX2_readDenied 76 = .ok (.invokevirtual 56, 3) := by decide +kernel
theorem dX2_readDenied_79 : decode cX2_readDenied 79 = .ok (.istore_n 2, 1) := by decide +kernel
theorem dX2_readDenied_80 : decode cX2_readDenied 80 = .ok (.aload_n 0, 1) := by decide +kernel
theorem dX2_readDenied_81 : decode cX2_readDenied 81 = .ok (.sipush 20000, 3) := by decide +kernel
theorem dX2_readDenied_84 : decode cX2_readDenied 84 = .ok (.iload_n 3, 1) := by decide +kernel
theorem dX2_readDenied_85 : decode cX2_readDenied 85 = .ok (.iadd, 1) := by decide +kernel
theorem dX2_readDenied_86 : decode cX2_readDenied 86 = .ok (.invokevirtual 49, 3) := by decide +kernel
theorem dX2_readDenied_89 : decode cX2_readDenied 89 = .ok (.iload_n 2, 1) := by decide +kernel
theorem dX2_readDenied_90 : decode cX2_readDenied 90 = .ok (.ireturn, 1) := by decide +kernel
theorem dX2_readSum_0 : decode cX2_readSum 0 = .ok (.aload_n 0, 1) := by decide +kernel
theorem dX2_readSum_1 : decode cX2_readSum 1 = .ok (.iload_n 1, 1) := by decide +kernel
theorem dX2_readSum_2 : decode cX2_readSum 2 = .ok (.invokevirtual 59, 3) := by decide +kernel
theorem dX2_readSum_5 : decode cX2_readSum 5 = .ok (.istore_n 2, 1) := by decide +kernel
theorem dX2_readSum_6 : decode cX2_readSum 6 = .ok (.iconst 0, 1) := by decide +kernel
theorem dX2_readSum_7 : decode cX2_readSum 7 = .ok (.istore_n 3, 1) := by decide +kernel
theorem dX2_readSum_8 : decode cX2_readSum 8 = .ok (.iload_n 3, 1) := by decide +kernel
theorem dX2_readSum_9 : decode cX2_readSum 9 = .ok (.sipush 160, 3) := by decide +kernel
theorem dX2_readSum_12 : decode cX2_readSum 12 = .ok (.if_icmp .ge 57, 3) := by decide +kernel
theorem dX2_readSum_15 : decode cX2_readSum 15 = .ok (.iload_n 2, 1) := by decide +kernel
theorem dX2_readSum_16 : decode cX2_readSum 16 = .ok (.ifCond .eq 53, 3) := by decide +kernel
theorem dX2_readSum_19 : decode cX2_readSum 19 = .ok (.aload_n 0, 1) := by decide +kernel
theorem dX2_readSum_20 : decode cX2_readSum 20 = .ok (.getfield 34, 3) := by decide +kernel
theorem dX2_readSum_23 : decode cX2_readSum 23 = .ok (.bipush 43, 2) := by decide +kernel
theorem dX2_readSum_25 : decode cX2_readSum 25 = .ok (.if_icmp .eq 12, 3) := by decide +kernel
theorem dX2_readSum_28 : decode cX2_readSum 28 = .ok (.aload_n 0, 1) := by decide +kernel
theorem dX2_readSum_29 : decode cX2_readSum 29 = .ok (.getfield 34, 3) := by decide +kernel
theorem dX2_readSum_32 : decode cX2_readSum 32 = .ok (.bipush 45, 2) := by decide +kernel
theorem dX2_readSum_34 : decode cX2_readSum 34 = .ok (.if_icmp .ne 35, 3) := by decide +kernel
theorem dX2_readSum_37 : decode cX2_readSum 37 = .ok (.aload_n 0, 1) := by decide +kernel
theorem dX2_readSum_38 : decode cX2_readSum 38 = .ok (.getfield 34, 3) := by decide +kernel
theorem dX2_readSum_41 : decode cX2_readSum 41 = .ok (.istore 4, 2) := by decide +kernel
theorem dX2_readSum_43 : decode cX2_readSum 43 = .ok (.aload_n 0, 1) := by decide +kernel
theorem dX2_readSum_44 : decode cX2_readSum 44 = .ok (.invokevirtual 31, 3) := by decide +kernel
theorem dX2_readSum_47 : decode cX2_readSum 47 = .ok (.aload_n 0, 1) := by decide +kernel
theorem dX2_readSum_48 : decode cX2_readSum 48 = .ok (.iload_n 1, 1) := by decide +kernel
theorem dX2_readSum_49 : decode cX2_readSum 49 = .ok (.invokevirtual 59, 3) := by decide +kernel
theorem dX2_readSum_52 : decode cX2_readSum 52 = .ok (.istore_n 2, 1) := by decide +kernel
theorem dX2_readSum_53 : decode cX2_readSum 53 = .ok (.aload_n 0, 1) := by decide +kernel
theorem dX2_readSum_54 : decode cX2_readSum 54 = .ok (.sipush 20000, 3) := by decide +kernel
theorem dX2_readSum_57 : decode cX2_readSum 57 = .ok (.iload 4, 2) := by decide +kernel
theorem dX2_readSum_59 : decode cX2_readSum 59 = .ok (.iadd, 1) := by decide +kernel
theorem dX2_readSum_60 : decode cX2_readSum 60 = .ok (.invokevirtual 49, 3) := by decide +kernel
theorem dX2_readSum_63 : decode cX2_readSum 63 = .ok (.iinc 3 1, 3) := by decide +kernel
theorem dX2_readSum_66 : decode cX2_readSum 66 = .ok (.goto (-58), 3) := by decide +kernel
theorem dX2_readSum_69 : decode cX2_readSum 69 = .ok (.iload_n 2, 1) := by decide +kernel
theorem dX2_readSum_70 : decode cX2_readSum 70 = .ok (.ireturn, 1) := by decide +kernel
theorem dX2_readTerm_0 : decode cX2_readTerm 0 = .ok (.aload_n 0, 1) := by decide +kernel
theorem dX2_readTerm_1 : decode cX2_readTerm 1 = .ok (.iload_n 1, 1) := by decide +kernel
theorem dX2_readTerm_2 : decode cX2_readTerm 2 = .ok (.invokevirtual 62, 3) := by decide +kernel
theorem dX2_readTerm_5 : decode cX2_readTerm 5 = .ok (.istore_n 2, 1) := by decide +kernel
theorem dX2_readTerm_6 : decode cX2_readTerm 6 = .ok (.iconst 0, 1) := by decide +kernel
theorem dX2_readTerm_7 : decode cX2_readTerm 7 = .ok (.istore_n 3, 1) := by decide +kernel
theorem dX2_readTerm_8 : decode cX2_readTerm 8 = .ok (.iload_n 3, 1) := by decide +kernel
theorem dX2_readTerm_9 : decode cX2_readTerm 9 = .ok (.sipush 160, 3) := by decide +kernel
theorem dX2_readTerm_12 : decode cX2_readTerm 12 = .ok (.if_icmp .ge 39, 3) := by decide +kernel
theorem dX2_readTerm_15 : decode cX2_readTerm 15 = .ok (.iload_n 2, 1) := by decide +kernel
theorem dX2_readTerm_16 : decode cX2_readTerm 16 = .ok (.ifCond .eq 35, 3) := by decide +kernel
theorem dX2_readTerm_19 : decode cX2_readTerm 19 = .ok (.aload_n 0, 1) := by decide +kernel
theorem dX2_readTerm_20 : decode cX2_readTerm 20 = .ok (.getfield 34, 3) := by decide +kernel
theorem dX2_readTerm_23 : decode cX2_readTerm 23 = .ok (.bipush 42, 2) := by decide +kernel
theorem dX2_readTerm_25 : decode cX2_readTerm 25 = .ok (.if_icmp .ne 26, 3) := by decide +kernel
theorem dX2_readTerm_28 : decode cX2_readTerm 28 = .ok (.aload_n 0, 1) := by decide +kernel
theorem dX2_readTerm_29 : decode cX2_readTerm 29 = .ok (.invokevirtual 31, 3) := by decide +kernel
theorem dX2_readTerm_32 : decode cX2_readTerm 32 = .ok (.aload_n 0, 1) := by decide +kernel
theorem dX2_readTerm_33 : decode cX2_readTerm 33 = .ok (.iload_n 1, 1) := by decide +kernel
theorem dX2_readTerm_34 : decode cX2_readTerm 34 = .ok (.invokevirtual 62, 3) := by decide +kernel
theorem dX2_readTerm_37 : decode cX2_readTerm 37 = .ok (.istore_n 2, 1) := by decide +kernel
theorem dX2_readTerm_38 : decode cX2_readTerm 38 = .ok (.aload_n 0, 1) := by decide +kernel
theorem dX2_readTerm_39 : decode cX2_readTerm 39 = .ok (.sipush 20042, 3) := by decide +kernel
theorem dX2_readTerm_42 : decode cX2_readTerm 42 = .ok (.invokevirtual 49, 3) := by decide +kernel
theorem dX2_readTerm_45 : decode cX2_readTerm 45 = .ok (.iinc 3 1, 3) := by decide +kernel
theorem dX2_readTerm_48 : decode cX2_readTerm 48 = .ok (.goto (-40), 3) := by decide +kernel
theorem dX2_readTerm_51 : decode cX2_readTerm 51 = .ok (.iload_n 2, 1) := by decide +kernel
theorem dX2_readTerm_52 : decode cX2_readTerm 52 = .ok (.ireturn, 1) := by decide +kernel
theorem dX2_readOne_0 : decode cX2_readOne 0 = .ok (.aload_n 0, 1) := by decide +kernel
theorem dX2_readOne_1 : decode cX2_readOne 1 = .ok (.getfield 34, 3) := by decide +kernel
theorem dX2_readOne_4 : decode cX2_readOne 4 = .ok (.iconst 2, 1) := by decide +kernel
theorem dX2_readOne_5 : decode cX2_readOne 5 = .ok (.if_icmp .eq 11, 3) := by decide +kernel
theorem dX2_readOne_8 : decode cX2_readOne 8 = .ok (.aload_n 0, 1) := by decide +kernel
theorem dX2_readOne_9 : decode cX2_readOne 9 = .ok (.getfield 34, 3) := by decide +kernel
theorem dX2_readOne_12 : decode cX2_readOne 12 = .ok (.iconst 3, 1) := by decide +kernel
theorem dX2_readOne_13 : decode cX2_readOne 13 = .ok (.if_icmp .ne 36, 3) := by decide +kernel
theorem dX2_readOne_16 : decode cX2_readOne 16 = .ok (.aload_n 0, 1) := by decide +kernel
theorem dX2_readOne_17 : decode cX2_readOne 17 = .ok (.aload_n 0, 1) := by decide +kernel
theorem dX2_readOne_18 : decode cX2_readOne 18 = .ok (.getfield 34, 3) := by decide +kernel
theorem dX2_readOne_21 : decode cX2_readOne 21 = .ok (.iconst 2, 1) := by decide +kernel
theorem dX2_readOne_22 : decode cX2_readOne 22 = .ok (.if_icmp .ne 10, 3) := by decide +kernel
theorem dX2_readOne_25 : decode cX2_readOne 25 = .ok (.aload_n 0, 1) := by decide +kernel
theorem dX2_readOne_26 : decode cX2_readOne 26 = .ok (.getfield 65, 3) := by decide +kernel
theorem dX2_readOne_29 : decode cX2_readOne 29 = .ok (.goto 11, 3) := by decide +kernel
theorem dX2_readOne_32 : decode cX2_readOne 32 = .ok (.sipush 10000, 3) := by decide +kernel
theorem dX2_readOne_35 : decode cX2_readOne 35 = .ok (.aload_n 0, 1) := by decide +kernel
theorem dX2_readOne_36 : decode cX2_readOne 36 = .ok (.getfield 65, 3) := by decide +kernel
theorem dX2_readOne_39 : decode cX2_readOne 39 = .ok (.iadd, 1) := by decide +kernel
theorem dX2_readOne_40 : decode cX2_readOne 40 = .ok (.invokevirtual 49, 3) := by decide +kernel
theorem dX2_readOne_43 : decode cX2_readOne 43 = .ok (.aload_n 0, 1) := by decide +kernel
theorem dX2_readOne_44 : decode cX2_readOne 44 = .ok (.invokevirtual 31, 3) := by decide +kernel
theorem dX2_readOne_47 : decode cX2_readOne 47 = .ok (.iconst 1, 1) := by decide +kernel
theorem dX2_readOne_48 : decode cX2_readOne 48 = .ok (.ireturn, 1) := by decide +kernel
theorem dX2_readOne_49 : decode cX2_readOne 49 = .ok (.aload_n 0, 1) := by decide +kernel
theorem dX2_readOne_50 : decode cX2_readOne 50 = .ok (.getfield 34, 3) := by decide +kernel
theorem dX2_readOne_53 : decode cX2_readOne 53 = .ok (.bipush 45, 2) := by decide +kernel
theorem dX2_readOne_55 : decode cX2_readOne 55 = .ok (.if_icmp .eq 12, 3) := by decide +kernel
theorem dX2_readOne_58 : decode cX2_readOne 58 = .ok (.aload_n 0, 1) := by decide +kernel
theorem dX2_readOne_59 : decode cX2_readOne 59 = .ok (.getfield 34, 3) := by decide +kernel
theorem dX2_readOne_62 : decode cX2_readOne 62 = .ok (.bipush 40, 2) := by decide +kernel
theorem dX2_readOne_64 : decode cX2_readOne 64 = .ok (.if_icmp .ne 8, 3) := by decide +kernel
theorem dX2_readOne_67 : decode cX2_readOne 67 = .ok (.iload_n 1, 1) := by decide +kernel
theorem dX2_readOne_68 : decode cX2_readOne 68 = .ok (.iconst 5, 1) := by decide +kernel
theorem dX2_readOne_69 : decode cX2_readOne 69 = .ok (.if_icmp .lt 5, 3) := by decide +kernel
theorem dX2_readOne_72 : decode cX2_readOne 72 = .ok (.iconst 0, 1) := by decide +kernel
theorem dX2_readOne_73 : decode cX2_readOne 73 = .ok (.ireturn, 1) := by decide +kernel
theorem dX2_readOne_74 : decode cX2_readOne 74 = .ok (.aload_n 0, 1) := by decide +kernel
theorem dX2_readOne_75 : decode cX2_readOne 75 = .ok (.getfield 34, 3) := by decide +kernel
theorem dX2_readOne_78 : decode cX2_readOne 78 = .ok (.bipush 45, 2) := by decide +kernel
theorem dX2_readOne_80 : decode cX2_readOne 80 = .ok (.if_icmp .ne 24, 3) := by decide +kernel
theorem dX2_readOne_83 : decode cX2_readOne 83 = .ok (.aload_n 0, 1) := by decide +kernel
theorem dX2_readOne_84 : decode cX2_readOne 84 = .ok (.invokevirtual 31, 3) := by decide +kernel
theorem dX2_readOne_87 : decode cX2_readOne 87 = .ok (.aload_n 0, 1) := by decide +kernel
theorem dX2_readOne_88 : decode cX2_readOne 88 = .ok (.iload_n 1, 1) := by decide +kernel
theorem dX2_readOne_89 : decode cX2_readOne 89 = .ok (.iconst 1, 1) := by decide +kernel
theorem dX2_readOne_90 : decode cX2_readOne 90 = .ok (.iadd, 1) := by decide +kernel
theorem dX2_readOne_91 : decode cX2_readOne 91 = .ok (.invokevirtual 62, 3) := by decide +kernel
theorem dX2_readOne_94 : decode cX2_readOne 94 = .ok (.istore_n 2, 1) := by decide +kernel
theorem dX2_readOne_95 : decode cX2_readOne 95 = .ok (.aload_n 0, 1) := by decide +kernel
theorem dX2_readOne_96 : decode cX2_readOne 96 = .ok (.sipush 30000, 3) := by decide +kernel
theorem dX2_readOne_99 : decode cX2_readOne 99 = .ok (.invokevirtual 49, 3) := by decide +kernel
theorem dX2_readOne_102 : decode cX2_readOne 102 = .ok (.iload_n 2, 1) := by decide +kernel
theorem dX2_readOne_103 : decode cX2_readOne 103 = .ok (.ireturn, 1) := by decide +kernel
theorem dX2_readOne_104 : decode cX2_readOne 104 = .ok (.aload_n 0, 1) := by decide +kernel
theorem dX2_readOne_105 : decode cX2_readOne 105 = .ok (.invokevirtual 31, 3) := by decide +kernel
theorem dX2_readOne_108 : decode cX2_readOne 108 = .ok (.aload_n 0, 1) := by decide +kernel
theorem dX2_readOne_109 : decode cX2_readOne 109 = .ok (.iload_n 1, 1) := by decide +kernel
theorem dX2_readOne_110 : decode cX2_readOne 110 = .ok (.iconst 1, 1) := by decide +kernel
theorem dX2_readOne_111 : decode cX2_readOne 111 = .ok (.iadd, 1) := by decide +kernel
theorem dX2_readOne_112 : decode cX2_readOne 112 = .ok (.invokevirtual 40, 3) := by decide +kernel
theorem dX2_readOne_115 : decode cX2_readOne 115 = .ok (.ifCond .eq 12, 3) := by decide +kernel
theorem dX2_readOne_118 : decode cX2_readOne 118 = .ok (.aload_n 0, 1) := by decide +kernel
theorem dX2_readOne_119 : decode cX2_readOne 119 = .ok (.getfield 34, 3) := by decide +kernel
theorem dX2_readOne_122 : decode cX2_readOne 122 = .ok (.bipush 41, 2) := by decide +kernel
theorem dX2_readOne_124 : decode cX2_readOne 124 = .ok (.if_icmp .eq 5, 3) := by decide +kernel
theorem dX2_readOne_127 : decode cX2_readOne 127 = .ok (.iconst 0, 1) := by decide +kernel
theorem dX2_readOne_128 : decode cX2_readOne 128 = .ok (.ireturn, 1) := by decide +kernel
theorem dX2_readOne_129 : decode cX2_readOne 129 = .ok (.aload_n 0, 1) := by decide +kernel
theorem dX2_readOne_130 : decode cX2_readOne 130 = .ok (.invokevirtual 31, 3) := by decide +kernel
theorem dX2_readOne_133 : decode cX2_readOne 133 = .ok (.iconst 1, 1) := by decide +kernel
theorem dX2_readOne_134 : decode cX2_readOne 134 = .ok (.ireturn, 1) := by decide +kernel
theorem dX2_emit_0 : decode cX2_emit 0 = .ok (.aload_n 0, 1) := by decide +kernel
theorem dX2_emit_1 : decode cX2_emit 1 = .ok (.getfield 28, 3) := by decide +kernel
theorem dX2_emit_4 : decode cX2_emit 4 = .ok (.sipush 160, 3) := by decide +kernel
theorem dX2_emit_7 : decode cX2_emit 7 = .ok (.if_icmp .ge 23, 3) := by decide +kernel
theorem dX2_emit_10 : decode cX2_emit 10 = .ok (.aload_n 0, 1) := by decide +kernel
theorem dX2_emit_11 : decode cX2_emit 11 = .ok (.getfield 15, 3) := by decide +kernel
theorem dX2_emit_14 : decode cX2_emit 14 = .ok (.aload_n 0, 1) := by decide +kernel
theorem dX2_emit_15 : decode cX2_emit 15 = .ok (.getfield 28, 3) := by decide +kernel
theorem dX2_emit_18 : decode cX2_emit 18 = .ok (.iload_n 1, 1) := by decide +kernel
theorem dX2_emit_19 : decode cX2_emit 19 = .ok (.iastore, 1) := by decide +kernel
theorem dX2_emit_20 : decode cX2_emit 20 = .ok (.aload_n 0, 1) := by decide +kernel
theorem dX2_emit_21 : decode cX2_emit 21 = .ok (.dup, 1) := by decide +kernel
theorem dX2_emit_22 : decode cX2_emit 22 = .ok (.getfield 28, 3) := by decide +kernel
theorem dX2_emit_25 : decode cX2_emit 25 = .ok (.iconst 1, 1) := by decide +kernel
theorem dX2_emit_26 : decode cX2_emit 26 = .ok (.iadd, 1) := by decide +kernel
theorem dX2_emit_27 : decode cX2_emit 27 = .ok (.putfield 28, 3) := by decide +kernel
theorem dX2_emit_30 : decode cX2_emit 30 = .ok (.return_, 1) := by decide +kernel
theorem dX2_next_0 : decode cX2_next 0 = .ok (.aload_n 0, 1) := by decide +kernel
theorem dX2_next_1 : decode cX2_next 1 = .ok (.getfield 25, 3) := by decide +kernel
theorem dX2_next_4 : decode cX2_next 4 = .ok (.aload_n 0, 1) := by decide +kernel
theorem dX2_next_5 : decode cX2_next 5 = .ok (.getfield 21, 3) := by decide +kernel
theorem dX2_next_8 : decode cX2_next 8 = .ok (.if_icmp .ge 44, 3) := by decide +kernel
theorem dX2_next_11 : decode cX2_next 11 = .ok (.aload_n 0, 1) := by decide +kernel
theorem dX2_next_12 : decode cX2_next 12 = .ok (.getfield 9, 3) := by decide +kernel
theorem dX2_next_15 : decode cX2_next 15 = .ok (.aload_n 0, 1) := by decide +kernel
theorem dX2_next_16 : decode cX2_next 16 = .ok (.getfield 25, 3) := by decide +kernel
theorem dX2_next_19 : decode cX2_next 19 = .ok (.iaload, 1) := by decide +kernel
theorem dX2_next_20 : decode cX2_next 20 = .ok (.bipush 32, 2) := by decide +kernel
theorem dX2_next_22 : decode cX2_next 22 = .ok (.if_icmp .eq 17, 3) := by decide +kernel
theorem dX2_next_25 : decode cX2_next 25 = .ok (.aload_n 0, 1) := by decide +kernel
theorem dX2_next_26 : decode cX2_next 26 = .ok (.getfield 9, 3) := by decide +kernel
theorem dX2_next_29 : decode cX2_next 29 = .ok (.aload_n 0, 1) := by decide +kernel
theorem dX2_next_30 : decode cX2_next 30 = .ok (.getfield 25, 3) := by decide +kernel
theorem dX2_next_33 : decode cX2_next 33 = .ok (.iaload, 1) := by decide +kernel
theorem dX2_next_34 : decode cX2_next 34 = .ok (.bipush 10, 2) := by decide +kernel
theorem dX2_next_36 : decode cX2_next 36 = .ok (.if_icmp .ne 16, 3) := by decide +kernel
theorem dX2_next_39 : decode cX2_next 39 = .ok (.aload_n 0, 1) := by decide +kernel
theorem dX2_next_40 : decode cX2_next 40 = .ok (.dup, 1) := by decide +kernel
theorem dX2_next_41 : decode cX2_next 41 = .ok (.getfield 25, 3) := by decide +kernel
theorem dX2_next_44 : decode cX2_next 44 = .ok (.iconst 1, 1) := by decide +kernel
theorem dX2_next_45 : decode cX2_next 45 = .ok (.iadd, 1) := by decide +kernel
theorem dX2_next_46 : decode cX2_next 46 = .ok (.putfield 25, 3) := by decide +kernel
theorem dX2_next_49 : decode cX2_next 49 = .ok (.goto (-49), 3) := by decide +kernel
theorem dX2_next_52 : decode cX2_next 52 = .ok (.aload_n 0, 1) := by decide +kernel
theorem dX2_next_53 : decode cX2_next 53 = .ok (.aload_n 0, 1) := by decide +kernel
theorem dX2_next_54 : decode cX2_next 54 = .ok (.getfield 25, 3) := by decide +kernel
theorem dX2_next_57 : decode cX2_next 57 = .ok (.putfield 37, 3) := by decide +kernel
theorem dX2_next_60 : decode cX2_next 60 = .ok (.aload_n 0, 1) := by decide +kernel
theorem dX2_next_61 : decode cX2_next 61 = .ok (.getfield 25, 3) := by decide +kernel
theorem dX2_next_64 : decode cX2_next 64 = .ok (.aload_n 0, 1) := by decide +kernel
theorem dX2_next_65 : decode cX2_next 65 = .ok (.getfield 21, 3) := by decide +kernel
theorem dX2_next_68 : decode cX2_next 68 = .ok (.if_icmp .lt 11, 3) := by decide +kernel
theorem dX2_next_71 : decode cX2_next 71 = .ok (.aload_n 0, 1) := by decide +kernel
theorem dX2_next_72 : decode cX2_next 72 = .ok (.iconst 0, 1) := by decide +kernel
theorem dX2_next_73 : decode cX2_next 73 = .ok (.putfield 34, 3) := by decide +kernel
theorem dX2_next_76 : decode cX2_next 76 = .ok (.goto 84, 3) := by decide +kernel
theorem dX2_next_79 : decode cX2_next 79 = .ok (.aload_n 0, 1) := by decide +kernel
theorem dX2_next_80 : decode cX2_next 80 = .ok (.aload_n 0, 1) := by decide +kernel
theorem dX2_next_81 : decode cX2_next 81 = .ok (.getfield 25, 3) := by decide +kernel
theorem dX2_next_84 : decode cX2_next 84 = .ok (.invokevirtual 68, 3) := by decide +kernel
theorem dX2_next_87 : decode cX2_next 87 = .ok (.ifCond .eq 10, 3) := by decide +kernel
theorem dX2_next_90 : decode cX2_next 90 = .ok (.aload_n 0, 1) := by decide +kernel
theorem dX2_next_91 : decode cX2_next 91 = .ok (.invokevirtual 71, 3) := by decide +kernel
theorem dX2_next_94 : decode cX2_next 94 = .ok (.goto 66, 3) := by decide +kernel
theorem dX2_next_97 : decode cX2_next 97 = .ok (.aload_n 0, 1) := by decide +kernel
theorem dX2_next_98 : decode cX2_next 98 = .ok (.aload_n 0, 1) := by decide +kernel
theorem dX2_next_99 : decode cX2_next 99 = .ok (.getfield 25, 3) := by decide +kernel
theorem dX2_next_102 : decode cX2_next 102 = .ok (.invokevirtual 74, 3) := by decide +kernel
theorem dX2_next_105 : decode cX2_next 105 = .ok (.ifCond .eq 10, 3) := by decide +kernel
theorem dX2_next_108 : decode cX2_next 108 = .ok (.aload_n 0, 1) := by decide +kernel
theorem dX2_next_109 : decode cX2_next 109 = .ok (.invokevirtual 77, 3) := by decide +kernel
theorem dX2_next_112 : decode cX2_next 112 = .ok (.goto 48, 3) := by decide +kernel
theorem dX2_next_115 : decode cX2_next 115 = .ok (.aload_n 0, 1) := by decide +kernel
theorem dX2_next_116 : decode cX2_next 116 = .ok (.ldc 80, 2) := by decide +kernel
theorem dX2_next_118 : decode cX2_next 118 = .ok (.aload_n 0, 1) := by decide +kernel
theorem dX2_next_119 : decode cX2_next 119 = .ok (.getfield 9, 3) := by decide +kernel
theorem dX2_next_122 : decode cX2_next 122 = .ok (.aload_n 0, 1) := by decide +kernel
theorem dX2_next_123 : decode cX2_next 123 = .ok (.getfield 25, 3) := by decide +kernel
theorem dX2_next_126 : decode cX2_next 126 = .ok (.iaload, 1) := by decide +kernel
theorem dX2_next_127 : decode cX2_next 127 = .ok (.i2c, 1) := by decide +kernel
theorem dX2_next_128 : decode cX2_next 128 = .ok (.invokevirtual 82, 3) := by decide +kernel
theorem dX2_next_131 : decode cX2_next 131 = .ok (.ifCond .lt 15, 3) := by decide +kernel
theorem dX2_next_134 : decode cX2_next 134 = .ok (.aload_n 0, 1) := by decide +kernel
theorem dX2_next_135 : decode cX2_next 135 = .ok (.getfield 9, 3) := by decide +kernel
theorem dX2_next_138 : decode cX2_next 138 = .ok (.aload_n 0, 1) := by decide +kernel
theorem dX2_next_139 : decode cX2_next 139 = .ok (.getfield 25, 3) := by decide +kernel
theorem dX2_next_142 : decode cX2_next 142 = .ok (.iaload, 1) := by decide +kernel
theorem dX2_next_143 : decode cX2_next 143 = .ok (.goto 4, 3) := by decide +kernel
theorem dX2_next_146 : decode cX2_next 146 = .ok (.iconst 1, 1) := by decide +kernel
theorem dX2_next_147 : decode cX2_next 147 = .ok (.putfield 34, 3) := by decide +kernel
theorem dX2_next_150 : decode cX2_next 150 = .ok (.aload_n 0, 1) := by decide +kernel
theorem dX2_next_151 : decode cX2_next 151 = .ok (.dup, 1) := by decide +kernel
theorem dX2_next_152 : decode cX2_next 152 = .ok (.getfield 25, 3) := by decide +kernel
theorem dX2_next_155 : decode cX2_next 155 = .ok (.iconst 1, 1) := by decide +kernel
theorem dX2_next_156 : decode cX2_next 156 = .ok (.iadd, 1) := by decide +kernel
theorem dX2_next_157 : decode cX2_next 157 = .ok (.putfield 25, 3) := by decide +kernel
theorem dX2_next_160 : decode cX2_next 160 = .ok (.return_, 1) := by decide +kernel
theorem dX2_nextNumber_0 : decode cX2_nextNumber 0 = .ok (.aload_n 0, 1) := by decide +kernel
theorem dX2_nextNumber_1 : decode cX2_nextNumber 1 = .ok (.iconst 0, 1) := by decide +kernel
theorem dX2_nextNumber_2 : decode cX2_nextNumber 2 = .ok (.putfield 65, 3) := by decide +kernel
theorem dX2_nextNumber_5 : decode cX2_nextNumber 5 = .ok (.aload_n 0, 1) := by decide +kernel
theorem dX2_nextNumber_6 : decode cX2_nextNumber 6 = .ok (.getfield 25, 3) := by decide +kernel
theorem dX2_nextNumber_9 : decode cX2_nextNumber 9 = .ok (.aload_n 0, 1) := by decide +kernel
theorem dX2_nextNumber_10 : decode cX2_nextNumber 10 = .ok (.getfield 21, 3) := by decide +kernel
theorem dX2_nextNumber_13 : decode cX2_nextNumber 13 = .ok (.if_icmp .ge 64, 3) := by decide +kernel
theorem dX2_nextNumber_16 : decode cX2_nextNumber 16 = .ok (.aload_n 0, 1) := by decide +kernel
theorem dX2_nextNumber_17 : decode cX2_nextNumber 17 = .ok (.aload_n 0, 1) := by decide +kernel
theorem dX2_nextNumber_18 : decode cX2_nextNumber 18 = .ok (.getfield 25, 3) := by decide +kernel
theorem dX2_nextNumber_21 : decode cX2_nextNumber 21 = .ok (.invokevirtual 68, 3) := by decide +kernel
theorem dX2_nextNumber_24 : decode cX2_nextNumber 24 = .ok (.ifCond .eq 53, 3) := by decide +kernel
theorem dX2_nextNumber_27 : decode cX2_nextNumber 27 = .ok (.aload_n 0, 1) := by decide +kernel
theorem dX2_nextNumber_28 : decode cX2_nextNumber 28 = .ok (.getfield 25, 3) := by decide +kernel
theorem dX2_nextNumber_31 : decode cX2_nextNumber 31 = .ok (.aload_n 0, 1) := by decide +kernel
theorem dX2_nextNumber_32 : decode cX2_nextNumber 32 = .ok (.getfield 37, 3) := by decide +kernel
theorem dX2_nextNumber_35 : decode cX2_nextNumber 35 = .ok (.isub, 1) := by decide +kernel
theorem dX2_nextNumber_36 : decode cX2_nextNumber 36 = .ok (.iconst 4, 1) := by decide +kernel
theorem dX2_nextNumber_37 : decode cX2_nextNumber 37 = .ok (.if_icmp .ge 27, 3) := by decide +kernel
theorem dX2_nextNumber_40 : decode cX2_nextNumber 40 = .ok (.aload_n 0, 1) := by decide +kernel
theorem dX2_nextNumber_41 : decode cX2_nextNumber 41 = .ok (.aload_n 0, 1) := by decide +kernel
theorem dX2_nextNumber_42 : decode cX2_nextNumber 42 = .ok (.getfield 65, 3) := by decide +kernel
theorem dX2_nextNumber_45 : decode cX2_nextNumber 45 = .ok (.bipush 10, 2) := by decide +kernel
theorem dX2_nextNumber_47 : decode cX2_nextNumber 47 = .ok (.imul, 1) := by decide +kernel
theorem dX2_nextNumber_48 : decode cX2_nextNumber 48 = .ok (.aload_n 0, 1) := by decide +kernel
theorem dX2_nextNumber_49 : decode cX2_nextNumber 49 = .ok (.getfield 9, 3) := by decide +kernel
theorem dX2_nextNumber_52 : decode cX2_nextNumber 52 = .ok (.aload_n 0, 1) := by decide +kernel
theorem dX2_nextNumber_53 : decode cX2_nextNumber 53 = .ok (.getfield 25, 3) := by decide +kernel
theorem dX2_nextNumber_56 : decode cX2_nextNumber 56 = .ok (.iaload, 1) := by decide +kernel
theorem dX2_nextNumber_57 : decode cX2_nextNumber 57 = .ok (.iadd, 1) := by decide +kernel
theorem dX2_nextNumber_58 : decode cX2_nextNumber 58 = .ok (.bipush 48, 2) := by decide +kernel
theorem dX2_nextNumber_60 : decode cX2_nextNumber 60 = .ok (.isub, 1) := by decide +kernel
theorem dX2_nextNumber_61 : decode cX2_nextNumber 61 = .ok (.putfield 65, 3) := by decide +kernel
theorem dX2_nextNumber_64 : decode cX2_nextNumber 64 = .ok (.aload_n 0, 1) := by decide +kernel
theorem dX2_nextNumber_65 : decode cX2_nextNumber 65 = .ok (.dup, 1) := by decide +kernel
theorem dX2_nextNumber_66 : decode cX2_nextNumber 66 = .ok (.getfield 25, 3) := by decide +kernel
theorem dX2_nextNumber_69 : decode cX2_nextNumber 69 = .ok (.iconst 1, 1) := by decide +kernel
theorem dX2_nextNumber_70 : decode cX2_nextNumber 70 = .ok (.iadd, 1) := by decide +kernel
theorem dX2_nextNumber_71 : decode cX2_nextNumber 71 = .ok (.putfield 25, 3) := by decide +kernel
theorem dX2_nextNumber_74 : decode cX2_nextNumber 74 = .ok (.goto (-69), 3) := by decide +kernel
theorem dX2_nextNumber_77 : decode cX2_nextNumber 77 = .ok (.aload_n 0, 1) := by decide +kernel
theorem dX2_nextNumber_78 : decode cX2_nextNumber 78 = .ok (.aload_n 0, 1) := by decide +kernel
theorem dX2_nextNumber_79 : decode cX2_nextNumber 79 = .ok (.getfield 25, 3) := by decide +kernel
theorem dX2_nextNumber_82 : decode cX2_nextNumber 82 = .ok (.aload_n 0, 1) := by decide +kernel
theorem dX2_nextNumber_83 : decode cX2_nextNumber 83 = .ok (.getfield 37, 3) := by decide +kernel
theorem dX2_nextNumber_86 : decode cX2_nextNumber 86 = .ok (.isub, 1) := by decide +kernel
theorem dX2_nextNumber_87 : decode cX2_nextNumber 87 = .ok (.iconst 4, 1) := by decide +kernel
theorem dX2_nextNumber_88 : decode cX2_nextNumber 88 = .ok (.if_icmp .le 7, 3) := by decide +kernel
theorem dX2_nextNumber_91 : decode cX2_nextNumber 91 = .ok (.iconst 1, 1) := by decide +kernel
theorem dX2_nextNumber_92 : decode cX2_nextNumber 92 = .ok (.goto 4, 3) := by decide +kernel
theorem dX2_nextNumber_95 : decode cX2_nextNumber 95 = .ok (.iconst 2, 1) := by decide +kernel
theorem dX2_nextNumber_96 : decode cX2_nextNumber 96 = .ok (.putfield 34, 3) := by decide +kernel
theorem dX2_nextNumber_99 : decode cX2_nextNumber 99 = .ok (.return_, 1) := by decide +kernel
theorem dX2_nextWord_0 : decode cX2_nextWord 0 = .ok (.aload_n 0, 1) := by decide +kernel
theorem dX2_nextWord_1 : decode cX2_nextWord 1 = .ok (.getfield 25, 3) := by decide +kernel
theorem dX2_nextWord_4 : decode cX2_nextWord 4 = .ok (.aload_n 0, 1) := by decide +kernel
theorem dX2_nextWord_5 : decode cX2_nextWord 5 = .ok (.getfield 21, 3) := by decide +kernel
theorem dX2_nextWord_8 : decode cX2_nextWord 8 = .ok (.if_icmp .ge 27, 3) := by decide +kernel
theorem dX2_nextWord_11 : decode cX2_nextWord 11 = .ok (.aload_n 0, 1) := by decide +kernel
theorem dX2_nextWord_12 : decode cX2_nextWord 12 = .ok (.aload_n 0, 1) := by decide +kernel
theorem dX2_nextWord_13 : decode cX2_nextWord 13 = .ok (.getfield 25, 3) := by decide +kernel
theorem dX2_nextWord_16 : decode cX2_nextWord 16 = .ok (.invokevirtual 74, 3) := by decide +kernel
theorem dX2_nextWord_19 : decode cX2_nextWord 19 = .ok (.ifCond .eq 16, 3) := by decide +kernel
theorem dX2_nextWord_22 : decode cX2_nextWord 22 = .ok (.aload_n 0, 1) := by decide +kernel
theorem dX2_nextWord_23 : decode cX2_nextWord 23 = .ok (.dup, 1) := by decide +kernel
theorem dX2_nextWord_24 : decode cX2_nextWord 24 = .ok (.getfield 25, 3) := by decide +kernel
theorem dX2_nextWord_27 : decode cX2_nextWord 27 = .ok (.iconst 1, 1) := by decide +kernel
theorem dX2_nextWord_28 : decode cX2_nextWord 28 = .ok (.iadd, 1) := by decide +kernel
theorem dX2_nextWord_29 : decode cX2_nextWord 29 = .ok (.putfield 25, 3) := by decide +kernel
theorem dX2_nextWord_32 : decode cX2_nextWord 32 = .ok (.goto (-32), 3) := by decide +kernel
theorem dX2_nextWord_35 : decode cX2_nextWord 35 = .ok (.aload_n 0, 1) := by decide +kernel
theorem dX2_nextWord_36 : decode cX2_nextWord 36 = .ok (.aload_n 0, 1) := by decide +kernel
theorem dX2_nextWord_37 : decode cX2_nextWord 37 = .ok (.aload_n 0, 1) := by decide +kernel
theorem dX2_nextWord_38 : decode cX2_nextWord 38 = .ok (.getfield 37, 3) := by decide +kernel
theorem dX2_nextWord_41 : decode cX2_nextWord 41 = .ok (.aload_n 0, 1) := by decide +kernel
theorem dX2_nextWord_42 : decode cX2_nextWord 42 = .ok (.getfield 25, 3) := by decide +kernel
theorem dX2_nextWord_45 : decode cX2_nextWord 45 = .ok (.invokevirtual 88, 3) := by decide +kernel
theorem dX2_nextWord_48 : decode cX2_nextWord 48 = .ok (.putfield 65, 3) := by decide +kernel
theorem dX2_nextWord_51 : decode cX2_nextWord 51 = .ok (.aload_n 0, 1) := by decide +kernel
theorem dX2_nextWord_52 : decode cX2_nextWord 52 = .ok (.getfield 65, 3) := by decide +kernel
theorem dX2_nextWord_55 : decode cX2_nextWord 55 = .ok (.iconst (-1), 1) := by decide +kernel
theorem dX2_nextWord_56 : decode cX2_nextWord 56 = .ok (.if_icmp .ne 11, 3) := by decide +kernel
theorem dX2_nextWord_59 : decode cX2_nextWord 59 = .ok (.aload_n 0, 1) := by decide +kernel
theorem dX2_nextWord_60 : decode cX2_nextWord 60 = .ok (.iconst 1, 1) := by decide +kernel
theorem dX2_nextWord_61 : decode cX2_nextWord 61 = .ok (.putfield 34, 3) := by decide +kernel
theorem dX2_nextWord_64 : decode cX2_nextWord 64 = .ok (.goto 29, 3) := by decide +kernel
theorem dX2_nextWord_67 : decode cX2_nextWord 67 = .ok (.aload_n 0, 1) := by decide +kernel
theorem dX2_nextWord_68 : decode cX2_nextWord 68 = .ok (.aload_n 0, 1) := by decide +kernel
theorem dX2_nextWord_69 : decode cX2_nextWord 69 = .ok (.getfield 65, 3) := by decide +kernel
theorem dX2_nextWord_72 : decode cX2_nextWord 72 = .ok (.bipush 6, 2) := by decide +kernel
theorem dX2_nextWord_74 : decode cX2_nextWord 74 = .ok (.if_icmp .ge 7, 3) := by decide +kernel
theorem dX2_nextWord_77 : decode cX2_nextWord 77 = .ok (.iconst 3, 1) := by decide +kernel
theorem dX2_nextWord_78 : decode cX2_nextWord 78 = .ok (.goto 12, 3) := by decide +kernel
theorem dX2_nextWord_81 : decode cX2_nextWord 81 = .ok (.iconst 4, 1) := by decide +kernel
theorem dX2_nextWord_82 : decode cX2_nextWord 82 = .ok (.aload_n 0, 1) := by decide +kernel
theorem dX2_nextWord_83 : decode cX2_nextWord 83 = .ok (.getfield 65, 3) := by decide +kernel
theorem dX2_nextWord_86 : decode cX2_nextWord 86 = .ok (.iadd, 1) := by decide +kernel
theorem dX2_nextWord_87 : decode cX2_nextWord 87 = .ok (.bipush 6, 2) := by decide +kernel
theorem dX2_nextWord_89 : decode cX2_nextWord 89 = .ok (.isub, 1) := by decide +kernel
theorem dX2_nextWord_90 : decode cX2_nextWord 90 = .ok (.putfield 34, 3) := by decide +kernel
theorem dX2_nextWord_93 : decode cX2_nextWord 93 = .ok (.return_, 1) := by decide +kernel
theorem dX2_wordNumber_0 : decode cX2_wordNumber 0 = .ok (.iconst 0, 1) := by decide +kernel
theorem dX2_wordNumber_1 : decode cX2_wordNumber 1 = .ok (.istore_n 3, 1) := by decide +kernel
theorem dX2_wordNumber_2 : decode cX2_wordNumber 2 = .ok (.iload_n 1, 1) := by decide +kernel
theorem dX2_wordNumber_3 : decode cX2_wordNumber 3 = .ok (.istore 4, 2) := by decide +kernel
theorem dX2_wordNumber_5 : decode cX2_wordNumber 5 = .ok (.iconst 1, 1) := by decide +kernel
theorem dX2_wordNumber_6 : decode cX2_wordNumber 6 = .ok (.istore 5, 2) := by decide +kernel
theorem dX2_wordNumber_8 : decode cX2_wordNumber 8 = .ok (.iconst 0, 1) := by decide +kernel
theorem dX2_wordNumber_9 : decode cX2_wordNumber 9 = .ok (.istore 6, 2) := by decide +kernel
theorem dX2_wordNumber_11 : decode cX2_wordNumber 11 = .ok (.iload 6, 2) := by decide +kernel
theorem dX2_wordNumber_13 : decode cX2_wordNumber 13 = .ok (.ldc 92, 2) := by decide +kernel
theorem dX2_wordNumber_15 : decode cX2_wordNumber 15 = .ok (.invokevirtual 94, 3) := by decide +kernel
theorem dX2_wordNumber_18 : decode cX2_wordNumber 18 = .ok (.if_icmp .ge 83, 3) := by decide +kernel
theorem dX2_wordNumber_21 : decode cX2_wordNumber 21 = .ok (.ldc 92, 2) := by decide +kernel
theorem dX2_wordNumber_23 : decode cX2_wordNumber 23 = .ok (.iload 6, 2) := by decide +kernel
theorem dX2_wordNumber_25 : decode cX2_wordNumber 25 = .ok (.invokevirtual 98, 3) := by decide +kernel
theorem dX2_wordNumber_28 : decode cX2_wordNumber 28 = .ok (.istore 7, 2) := by decide +kernel
theorem dX2_wordNumber_30 : decode cX2_wordNumber 30 = .ok (.iload 7, 2) := by decide +kernel
theorem dX2_wordNumber_32 : decode cX2_wordNumber 32 = .ok (.bipush 32, 2) := by decide +kernel
theorem dX2_wordNumber_34 : decode cX2_wordNumber 34 = .ok (.if_icmp .eq 39, 3) := by decide +kernel
theorem dX2_wordNumber_37 : decode cX2_wordNumber 37 = .ok (.iload 5, 2) := by decide +kernel
theorem dX2_wordNumber_39 : decode cX2_wordNumber 39 = .ok (.ifCond .eq 25, 3) := by decide +kernel
theorem dX2_wordNumber_42 : decode cX2_wordNumber 42 = .ok (.iload 4, 2) := by decide +kernel
theorem dX2_wordNumber_44 : decode cX2_wordNumber 44 = .ok (.iload_n 2, 1) := by decide +kernel
theorem dX2_wordNumber_45 : decode cX2_wordNumber 45 = .ok (.if_icmp .ge 19, 3) := by decide +kernel
theorem dX2_wordNumber_48 : decode cX2_wordNumber 48 = .ok (.aload_n 0, 1) := by decide +kernel
theorem dX2_wordNumber_49 : decode cX2_wordNumber 49 = .ok (.getfield 9, 3) := by decide +kernel
theorem dX2_wordNumber_52 : decode cX2_wordNumber 52 = .ok (.iload 4, 2) := by decide +kernel
theorem dX2_wordNumber_54 : decode cX2_wordNumber 54 = .ok (.iaload, 1) := by decide +kernel
theorem dX2_wordNumber_55 : decode cX2_wordNumber 55 = .ok (.iload 7, 2) := by decide +kernel
theorem dX2_wordNumber_57 : decode cX2_wordNumber 57 = .ok (.if_icmp .ne 7, 3) := by decide +kernel
theorem dX2_wordNumber_60 : decode cX2_wordNumber 60 = .ok (.iconst 1, 1) := by decide +kernel
theorem dX2_wordNumber_61 : decode cX2_wordNumber 61 = .ok (.goto 4, 3) := by decide +kernel
theorem dX2_wordNumber_64 : decode cX2_wordNumber 64 = .ok (.iconst 0, 1) := by decide +kernel
theorem dX2_wordNumber_65 : decode cX2_wordNumber 65 = .ok (.istore 5, 2) := by decide +kernel
theorem dX2_wordNumber_67 : decode cX2_wordNumber 67 = .ok (.iinc 4 1, 3) := by decide +kernel
theorem dX2_wordNumber_70 : decode cX2_wordNumber 70 = .ok (.goto 25, 3) := by decide +kernel
theorem dX2_wordNumber_73 : decode cX2_wordNumber 73 = .ok (.iload 5, 2) := by decide +kernel
theorem dX2_wordNumber_75 : decode cX2_wordNumber 75 = .ok (.ifCond .eq 11, 3) := by decide +kernel
theorem dX2_wordNumber_78 : decode cX2_wordNumber 78 = .ok (.iload 4, 2) := by decide +kernel
theorem dX2_wordNumber_80 : decode cX2_wordNumber 80 = .ok (.iload_n 2, 1) := by decide +kernel
theorem dX2_wordNumber_81 : decode cX2_wordNumber 81 = .ok (.if_icmp .ne 5, 3) := by decide +kernel
theorem dX2_wordNumber_84 : decode cX2_wordNumber 84 = .ok (.iload_n 3, 1) := by decide +kernel
theorem dX2_wordNumber_85 : decode cX2_wordNumber 85 = .ok (.ireturn, 1) := by decide +kernel
theorem dX2_wordNumber_86 : decode cX2_wordNumber 86 = .ok (.iinc 3 1, 3) := by decide +kernel
theorem dX2_wordNumber_89 : decode cX2_wordNumber 89 = .ok (.iload_n 1, 1) := by decide +kernel
theorem dX2_wordNumber_90 : decode cX2_wordNumber 90 = .ok (.istore 4, 2) := by decide +kernel
theorem dX2_wordNumber_92 : decode cX2_wordNumber 92 = .ok (.iconst 1, 1) := by decide +kernel
theorem dX2_wordNumber_93 : decode cX2_wordNumber 93 = .ok (.istore 5, 2) := by decide +kernel
theorem dX2_wordNumber_95 : decode cX2_wordNumber 95 = .ok (.iinc 6 1, 3) := by decide +kernel
theorem dX2_wordNumber_98 : decode cX2_wordNumber 98 = .ok (.goto (-87), 3) := by decide +kernel
theorem dX2_wordNumber_101 : decode cX2_wordNumber 101 = .ok (.iconst (-1), 1) := by decide +kernel
theorem dX2_wordNumber_102 : decode cX2_wordNumber 102 = .ok (.ireturn, 1) := by decide +kernel
theorem dX2_isDigit_0 : decode cX2_isDigit 0 = .ok (.aload_n 0, 1) := by decide +kernel
theorem dX2_isDigit_1 : decode cX2_isDigit 1 = .ok (.getfield 9, 3) := by decide +kernel
theorem dX2_isDigit_4 : decode cX2_isDigit 4 = .ok (.iload_n 1, 1) := by decide +kernel
theorem dX2_isDigit_5 : decode cX2_isDigit 5 = .ok (.iaload, 1) := by decide +kernel
theorem dX2_isDigit_6 : decode cX2_isDigit 6 = .ok (.bipush 48, 2) := by decide +kernel
theorem dX2_isDigit_8 : decode cX2_isDigit 8 = .ok (.if_icmp .lt 18, 3) := by decide +kernel
theorem dX2_isDigit_11 : decode cX2_isDigit 11 = .ok (.aload_n 0, 1) := by decide +kernel
theorem dX2_isDigit_12 : decode cX2_isDigit 12 = .ok (.getfield 9, 3) := by decide +kernel
theorem dX2_isDigit_15 : decode cX2_isDigit 15 = .ok (.iload_n 1, 1) := by decide +kernel
theorem dX2_isDigit_16 : decode cX2_isDigit 16 = .ok (.iaload, 1) := by decide +kernel
theorem dX2_isDigit_17 : decode cX2_isDigit 17 = .ok (.bipush 57, 2) := by decide +kernel
theorem dX2_isDigit_19 : decode cX2_isDigit 19 = .ok (.if_icmp .gt 7, 3) := by decide +kernel
theorem dX2_isDigit_22 : decode cX2_isDigit 22 = .ok (.iconst 1, 1) := by decide +kernel
theorem dX2_isDigit_23 : decode cX2_isDigit 23 = .ok (.goto 4, 3) := by decide +kernel
theorem dX2_isDigit_26 : decode cX2_isDigit 26 = .ok (.iconst 0, 1) := by decide +kernel
theorem dX2_isDigit_27 : decode cX2_isDigit 27 = .ok (.ireturn, 1) := by decide +kernel
theorem dX2_isLetter_0 : decode cX2_isLetter 0 = .ok (.aload_n 0, 1) := by decide +kernel
theorem dX2_isLetter_1 : decode cX2_isLetter 1 = .ok (.getfield 9, 3) := by decide +kernel
theorem dX2_isLetter_4 : decode cX2_isLetter 4 = .ok (.iload_n 1, 1) := by decide +kernel
theorem dX2_isLetter_5 : decode cX2_isLetter 5 = .ok (.iaload, 1) := by decide +kernel
theorem dX2_isLetter_6 : decode cX2_isLetter 6 = .ok (.bipush 97, 2) := by decide +kernel
theorem dX2_isLetter_8 : decode cX2_isLetter 8 = .ok (.if_icmp .lt 18, 3) := by decide +kernel
theorem dX2_isLetter_11 : decode cX2_isLetter 11 = .ok (.aload_n 0, 1) := by decide +kernel
theorem dX2_isLetter_12 : decode cX2_isLetter 12 = .ok (.getfield 9, 3) := by decide +kernel
theorem dX2_isLetter_15 : decode cX2_isLetter 15 = .ok (.iload_n 1, 1) := by decide +kernel
theorem dX2_isLetter_16 : decode cX2_isLetter 16 = .ok (.iaload, 1) := by decide +kernel
theorem dX2_isLetter_17 : decode cX2_isLetter 17 = .ok (.bipush 122, 2) := by decide +kernel
theorem dX2_isLetter_19 : decode cX2_isLetter 19 = .ok (.if_icmp .gt 7, 3) := by decide +kernel
theorem dX2_isLetter_22 : decode cX2_isLetter 22 = .ok (.iconst 1, 1) := by decide +kernel
theorem dX2_isLetter_23 : decode cX2_isLetter 23 = .ok (.goto 4, 3) := by decide +kernel
theorem dX2_isLetter_26 : decode cX2_isLetter 26 = .ok (.iconst 0, 1) := by decide +kernel
theorem dX2_isLetter_27 : decode cX2_isLetter 27 = .ok (.ireturn, 1) := by decide +kernel
theorem dX3_init_0 : decode cX3_init 0 = .ok (.aload_n 0, 1) := by decide +kernel
theorem dX3_init_1 : decode cX3_init 1 = .ok (.invokespecial 3, 3) := by decide +kernel
theorem dX3_init_4 : decode cX3_init 4 = .ok (.aload_n 0, 1) := by decide +kernel
theorem dX3_init_5 : decode cX3_init 5 = .ok (.sipush 160, 3) := by decide +kernel
theorem dX3_init_8 : decode cX3_init 8 = .ok (.newarray .int, 2) := by decide +kernel
theorem dX3_init_10 : decode cX3_init 10 = .ok (.putfield 9, 3) := by decide +kernel
theorem dX3_init_13 : decode cX3_init 13 = .ok (.aload_n 0, 1) := by decide +kernel
theorem dX3_init_14 : decode cX3_init 14 = .ok (.iconst 3, 1) := by decide +kernel
theorem dX3_init_15 : decode cX3_init 15 = .ok (.newarray .int, 2) := by decide +kernel
theorem dX3_init_17 : decode cX3_init 17 = .ok (.putfield 15, 3) := by decide +kernel
theorem dX3_init_20 : decode cX3_init 20 = .ok (.aload_n 0, 1) := by decide +kernel
theorem dX3_init_21 : decode cX3_init 21 = .ok (.sipush 160, 3) := by decide +kernel
theorem dX3_init_24 : decode cX3_init 24 = .ok (.newarray .int, 2) := by decide +kernel
theorem dX3_init_26 : decode cX3_init 26 = .ok (.putfield 18, 3) := by decide +kernel
theorem dX3_init_29 : decode cX3_init 29 = .ok (.return_, 1) := by decide +kernel
theorem dX3_become_0 : decode cX3_become 0 = .ok (.iconst 0, 1) := by decide +kernel
theorem dX3_become_1 : decode cX3_become 1 = .ok (.istore_n 2, 1) := by decide +kernel
theorem dX3_become_2 : decode cX3_become 2 = .ok (.iload_n 2, 1) := by decide +kernel
theorem dX3_become_3 : decode cX3_become 3 = .ok (.sipush 160, 3) := by decide +kernel
theorem dX3_become_6 : decode cX3_become 6 = .ok (.if_icmp .ge 21, 3) := by decide +kernel
theorem dX3_become_9 : decode cX3_become 9 = .ok (.aload_n 0, 1) := by decide +kernel
theorem dX3_become_10 : decode cX3_become 10 = .ok (.getfield 9, 3) := by decide +kernel
theorem dX3_become_13 : decode cX3_become 13 = .ok (.iload_n 2, 1) := by decide +kernel
theorem dX3_become_14 : decode cX3_become 14 = .ok (.aload_n 1, 1) := by decide +kernel
theorem dX3_become_15 : decode cX3_become 15 = .ok (.getfield 21, 3) := by decide +kernel
theorem dX3_become_18 : decode cX3_become 18 = .ok (.iload_n 2, 1) := by decide +kernel
theorem dX3_become_19 : decode cX3_become 19 = .ok (.iaload, 1) := by decide +kernel
theorem dX3_become_20 : decode cX3_become 20 = .ok (.iastore, 1) := by decide +kernel
theorem dX3_become_21 : decode cX3_become 21 = .ok (.iinc 2 1, 3) := by decide +kernel
theorem dX3_become_24 : decode cX3_become 24 = .ok (.goto (-22), 3) := by decide +kernel
theorem dX3_become_27 : decode cX3_become 27 = .ok (.iconst 0, 1) := by decide +kernel
theorem dX3_become_28 : decode cX3_become 28 = .ok (.istore_n 2, 1) := by decide +kernel
theorem dX3_become_29 : decode cX3_become 29 = .ok (.iload_n 2, 1) := by decide +kernel
theorem dX3_become_30 : decode cX3_become 30 = .ok (.iconst 3, 1) := by decide +kernel
theorem dX3_become_31 : decode cX3_become 31 = .ok (.if_icmp .ge 21, 3) := by decide +kernel
theorem dX3_become_34 : decode cX3_become 34 = .ok (.aload_n 0, 1) := by decide +kernel
theorem dX3_become_35 : decode cX3_become 35 = .ok (.getfield 15, 3) := by decide +kernel
theorem dX3_become_38 : decode cX3_become 38 = .ok (.iload_n 2, 1) := by decide +kernel
theorem dX3_become_39 : decode cX3_become 39 = .ok (.aload_n 1, 1) := by decide +kernel
theorem dX3_become_40 : decode cX3_become 40 = .ok (.getfield 24, 3) := by decide +kernel
theorem dX3_become_43 : decode cX3_become 43 = .ok (.iload_n 2, 1) := by decide +kernel
theorem dX3_become_44 : decode cX3_become 44 = .ok (.iaload, 1) := by decide +kernel
theorem dX3_become_45 : decode cX3_become 45 = .ok (.iastore, 1) := by decide +kernel
theorem dX3_become_46 : decode cX3_become 46 = .ok (.iinc 2 1, 3) := by decide +kernel
theorem dX3_become_49 : decode cX3_become 49 = .ok (.goto (-20), 3) := by decide +kernel
theorem dX3_become_52 : decode cX3_become 52 = .ok (.return_, 1) := by decide +kernel
theorem dX3_tell_0 : decode cX3_tell 0 = .ok (.iconst 0, 1) := by decide +kernel
theorem dX3_tell_1 : decode cX3_tell 1 = .ok (.istore_n 3, 1) := by decide +kernel
theorem dX3_tell_2 : decode cX3_tell 2 = .ok (.iload_n 1, 1) := by decide +kernel
theorem dX3_tell_3 : decode cX3_tell 3 = .ok (.ifCond .ne 7, 3) := by decide +kernel
theorem dX3_tell_6 : decode cX3_tell 6 = .ok (.iconst 0, 1) := by decide +kernel
theorem dX3_tell_7 : decode cX3_tell 7 = .ok (.goto 11, 3) := by decide +kernel
theorem dX3_tell_10 : decode cX3_tell 10 = .ok (.aload_n 0, 1) := by decide +kernel
theorem dX3_tell_11 : decode cX3_tell 11 = .ok (.getfield 15, 3) := by decide +kernel
theorem dX3_tell_14 : decode cX3_tell 14 = .ok (.iload_n 1, 1) := by decide +kernel
theorem dX3_tell_15 : decode cX3_tell 15 = .ok (.iconst 1, 1) := by decide +kernel
theorem dX3_tell_16 : decode cX3_tell 16 = .ok (.isub, 1) := by decide +kernel
theorem dX3_tell_17 : decode cX3_tell 17 = .ok (.iaload, 1) := by decide +kernel
theorem dX3_tell_18 : decode cX3_tell 18 = .ok (.istore 4, 2) := by decide +kernel
theorem dX3_tell_20 : decode cX3_tell 20 = .ok (.iload 4, 2) := by decide +kernel
theorem dX3_tell_22 : decode cX3_tell 22 = .ok (.aload_n 0, 1) := by decide +kernel
theorem dX3_tell_23 : decode cX3_tell 23 = .ok (.getfield 15, 3) := by decide +kernel
theorem dX3_tell_26 : decode cX3_tell 26 = .ok (.iload_n 1, 1) := by decide +kernel
theorem dX3_tell_27 : decode cX3_tell 27 = .ok (.iaload, 1) := by decide +kernel
theorem dX3_tell_28 : decode cX3_tell 28 = .ok (.if_icmp .ge 149, 3) := by decide +kernel
theorem dX3_tell_31 : decode cX3_tell 31 = .ok (.aload_n 0, 1) := by decide +kernel
theorem dX3_tell_32 : decode cX3_tell 32 = .ok (.getfield 9, 3) := by decide +kernel
theorem dX3_tell_35 : decode cX3_tell 35 = .ok (.iload 4, 2) := by decide +kernel
theorem dX3_tell_37 : decode cX3_tell 37 = .ok (.iaload, 1) := by decide +kernel
theorem dX3_tell_38 : decode cX3_tell 38 = .ok (.istore 5, 2) := by decide +kernel
theorem dX3_tell_40 : decode cX3_tell 40 = .ok (.iload 5, 2) := by decide +kernel
theorem dX3_tell_42 : decode cX3_tell 42 = .ok (.sipush 20000, 3) := by decide +kernel
theorem dX3_tell_45 : decode cX3_tell 45 = .ok (.if_icmp .ge 51, 3) := by decide +kernel
theorem dX3_tell_48 : decode cX3_tell 48 = .ok (.iload 5, 2) := by decide +kernel
theorem dX3_tell_50 : decode cX3_tell 50 = .ok (.sipush 10000, 3) := by decide +kernel
theorem dX3_tell_53 : decode cX3_tell 53 = .ok (.isub, 1) := by decide +kernel
theorem dX3_tell_54 : decode cX3_tell 54 = .ok (.istore 6, 2) := by decide +kernel
theorem dX3_tell_56 : decode cX3_tell 56 = .ok (.iload_n 3, 1) := by decide +kernel
theorem dX3_tell_57 : decode cX3_tell 57 = .ok (.sipush 160, 3) := by decide +kernel
theorem dX3_tell_60 : decode cX3_tell 60 = .ok (.if_icmp .ge 33, 3) := by decide +kernel
theorem dX3_tell_63 : decode cX3_tell 63 = .ok (.iload 6, 2) := by decide +kernel
theorem dX3_tell_65 : decode cX3_tell 65 = .ok (.bipush 6, 2) := by decide +kernel
theorem dX3_tell_67 : decode cX3_tell 67 = .ok (.if_icmp .ge 26, 3) := by decide +kernel
theorem dX3_tell_70 : decode cX3_tell 70 = .ok (.aload_n 0, 1) := by decide +kernel
theorem dX3_tell_71 : decode cX3_tell 71 = .ok (.getfield 18, 3) := by decide +kernel
theorem dX3_tell_74 : decode cX3_tell 74 = .ok (.iload_n 3, 1) := by decide +kernel
theorem dX3_tell_75 : decode cX3_tell 75 = .ok (.iload 6, 2) := by decide +kernel
theorem dX3_tell_77 : decode cX3_tell 77 = .ok (.ifCond .ge 8, 3) := by decide +kernel
theorem dX3_tell_80 : decode cX3_tell 80 = .ok (.iload 5, 2) := by decide +kernel
theorem dX3_tell_82 : decode cX3_tell 82 = .ok (.goto 7, 3) := by decide +kernel
theorem dX3_tell_85 : decode cX3_tell 85 = .ok (.aload_n 2, 1) := by decide +kernel
theorem dX3_tell_86 : decode cX3_tell 86 = .ok (.iload 6, 2) := by decide +kernel
theorem dX3_tell_88 : decode cX3_tell 88 = .ok (.iaload, 1) := by decide +kernel
theorem dX3_tell_89 : decode cX3_tell 89 = .ok (.iastore, 1) := by decide +kernel
theorem dX3_tell_90 : decode cX3_tell 90 = .ok (.iinc 3 1, 3) := by decide +kernel
theorem dX3_tell_93 : decode cX3_tell 93 = .ok (.goto 78, 3) := by decide +kernel
theorem dX3_tell_96 : decode cX3_tell 96 = .ok (.iload 5, 2) := by decide +kernel
theorem dX3_tell_98 : decode cX3_tell 98 = .ok (.sipush 30000, 3) := by decide +kernel
theorem dX3_tell_101 : decode cX3_tell 101 = .ok (.if_icmp .lt 31, 3) := by decide +kernel
theorem dX3_tell_104 : decode cX3_tell 104 = .ok (.iload_n 3, 1) := by decide +kernel
theorem dX3_tell_105 : decode cX3_tell 105 = .ok (.ifCond .le 66, 3) := by decide +kernel
theorem dX3_tell_108 : decode cX3_tell 108 = .ok (.aload_n 0, 1) := by decide +kernel
theorem dX3_tell_109 : decode cX3_tell 109 = .ok (.getfield 18, 3) := by decide +kernel
theorem dX3_tell_112 : decode cX3_tell 112 = .ok (.iload_n 3, 1) := by decide +kernel
theorem dX3_tell_113 : decode cX3_tell 113 = .ok (.iconst 1, 1) := by decide +kernel
theorem dX3_tell_114 : decode cX3_tell 114 = .ok (.isub, 1) := by decide +kernel
theorem dX3_tell_115 : decode cX3_tell 115 = .ok (.iload 5, 2) := by decide +kernel
theorem dX3_tell_117 : decode cX3_tell 117 = .ok (.aload_n 0, 1) := by decide +kernel
theorem dX3_tell_118 : decode cX3_tell 118 = .ok (.getfield 18, 3) := by decide +kernel
theorem dX3_tell_121 : decode cX3_tell 121 = .ok (.iload_n 3, 1) := by decide +kernel
theorem dX3_tell_122 : decode cX3_tell 122 = .ok (.iconst 1, 1) := by decide +kernel
theorem dX3_tell_123 : decode cX3_tell 123 = .ok (.isub, 1) := by decide +kernel
theorem dX3_tell_124 : decode cX3_tell 124 = .ok (.iaload, 1) := by decide +kernel
theorem dX3_tell_125 : decode cX3_tell 125 = .ok (.invokestatic 25, 3) := by decide +kernel
theorem dX3_tell_128 : decode cX3_tell 128 = .ok (.iastore, 1) := by decide +kernel
theorem dX3_tell_129 : decode cX3_tell 129 = .ok (.goto 42, 3) := by decide +kernel
theorem dX3_tell_132 : decode cX3_tell 132 = .ok (.iload_n 3, 1) := by decide +kernel
theorem dX3_tell_133 : decode cX3_tell 133 = .ok (.iconst 1, 1) := by decide +kernel
theorem dX3_tell_134 : decode cX3_tell 134 = .ok (.if_icmp .le 37, 3) := by decide +kernel
theorem dX3_tell_137 : decode cX3_tell 137 = .ok (.iinc 3 (-1), 3) := by decide +kernel
theorem dX3_tell_140 : decode cX3_tell 140 = .ok (.aload_n 0, 1) := by decide +kernel
theorem dX3_tell_141 : decode cX3_tell 141 = .ok (.getfield 18, 3) := by decide +kernel
theorem dX3_tell_144 : decode cX3_tell 144 = .ok (.iload_n 3, 1) := by decide +kernel
theorem dX3_tell_145 : decode cX3_tell 145 = .ok (.iconst 1, 1) := by decide +kernel
theorem dX3_tell_146 : decode cX3_tell 146 = .ok (.isub, 1) := by decide +kernel
theorem dX3_tell_147 : decode cX3_tell 147 = .ok (.iload 5, 2) := by decide +kernel
theorem dX3_tell_149 : decode cX3_tell 149 = .ok (.sipush 20000, 3) := by decide +kernel
theorem dX3_tell_152 : decode cX3_tell 152 = .ok (.isub, 1) := by decide +kernel
theorem dX3_tell_153 : decode cX3_tell 153 = .ok (.aload_n 0, 1) := by decide +kernel
theorem dX3_tell_154 : decode cX3_tell 154 = .ok (.getfield 18, 3) := by decide +kernel
theorem dX3_tell_157 : decode cX3_tell 157 = .ok (.iload_n 3, 1) := by decide +kernel
theorem dX3_tell_158 : decode cX3_tell 158 = .ok (.iconst 1, 1) := by decide +kernel
theorem dX3_tell_159 : decode cX3_tell 159 = .ok (.isub, 1) := by decide +kernel
theorem dX3_tell_160 : decode cX3_tell 160 = .ok (.iaload, 1) := by decide +kernel
theorem dX3_tell_161 : decode cX3_tell 161 = .ok (.aload_n 0, 1) := by decide +kernel
theorem dX3_tell_162 : decode cX3_tell 162 = .ok (.getfield 18, 3) := by decide +kernel
theorem dX3_tell_165 : decode cX3_tell 165 = .ok (.iload_n 3, 1) := by decide +kernel
theorem dX3_tell_166 : decode cX3_tell 166 = .ok (.iaload, 1) := by decide +kernel
theorem dX3_tell_167 : decode cX3_tell 167 = .ok (.invokestatic 29, 3) := by decide +kernel
theorem dX3_tell_170 : decode cX3_tell 170 = .ok (.iastore, 1) := by decide +kernel
theorem dX3_tell_171 : decode cX3_tell 171 = .ok (.iinc 4 1, 3) := by decide +kernel
theorem dX3_tell_174 : decode cX3_tell 174 = .ok (.goto (-154), 3) := by decide +kernel
theorem dX3_tell_177 : decode cX3_tell 177 = .ok (.iload_n 3, 1) := by decide +kernel
theorem dX3_tell_178 : decode cX3_tell 178 = .ok (.ifCond .le 12, 3) := by decide +kernel
theorem dX3_tell_181 : decode cX3_tell 181 = .ok (.aload_n 0, 1) := by decide +kernel
theorem dX3_tell_182 : decode cX3_tell 182 = .ok (.getfield 18, 3) := by decide +kernel
theorem dX3_tell_185 : decode cX3_tell 185 = .ok (.iconst 0, 1) := by decide +kernel
theorem dX3_tell_186 : decode cX3_tell 186 = .ok (.iaload, 1) := by decide +kernel
theorem dX3_tell_187 : decode cX3_tell 187 = .ok (.goto 4, 3) := by decide +kernel
theorem dX3_tell_190 : decode cX3_tell 190 = .ok (.iconst 0, 1) := by decide +kernel
theorem dX3_tell_191 : decode cX3_tell 191 = .ok (.ireturn, 1) := by decide +kernel
theorem dX3_changed_0 : decode cX3_changed 0 = .ok (.iload_n 0, 1) := by decide +kernel
theorem dX3_changed_1 : decode cX3_changed 1 = .ok (.sipush 30000, 3) := by decide +kernel
theorem dX3_changed_4 : decode cX3_changed 4 = .ok (.if_icmp .ne 6, 3) := by decide +kernel
theorem dX3_changed_7 : decode cX3_changed 7 = .ok (.iload_n 1, 1) := by decide +kernel
theorem dX3_changed_8 : decode cX3_changed 8 = .ok (.ineg, 1) := by decide +kernel
theorem dX3_changed_9 : decode cX3_changed 9 = .ok (.ireturn, 1) := by decide +kernel
theorem dX3_changed_10 : decode cX3_changed 10 = .ok (.iload_n 1, 1) := by decide +kernel
theorem dX3_changed_11 : decode cX3_changed 11 = .ok (.ifCond .ne 7, 3) := by decide +kernel
theorem dX3_changed_14 : decode cX3_changed 14 = .ok (.iconst 1, 1) := by decide +kernel
theorem dX3_changed_15 : decode cX3_changed 15 = .ok (.goto 4, 3) := by decide +kernel
theorem dX3_changed_18 : decode cX3_changed 18 = .ok (.iconst 0, 1) := by decide +kernel
theorem dX3_changed_19 : decode cX3_changed 19 = .ok (.ireturn, 1) := by decide +kernel
theorem dX3_joined_0 : decode cX3_joined 0 = .ok (.iload_n 0, 1) := by decide +kernel
theorem dX3_joined_1 : decode cX3_joined 1 = .ok (.lookupswitch 117 #[(7, 59), (8, 73), (43, 109), (45, 113), (60, 87), (61, 98)], 59) := by decide +kernel
theorem dX3_joined_60 : decode cX3_joined 60 = .ok (.iload_n 1, 1) := by decide +kernel
theorem dX3_joined_61 : decode cX3_joined 61 = .ok (.ifCond .ne 7, 3) := by decide +kernel
theorem dX3_joined_64 : decode cX3_joined 64 = .ok (.iload_n 2, 1) := by decide +kernel
theorem dX3_joined_65 : decode cX3_joined 65 = .ok (.ifCond .eq 7, 3) := by decide +kernel
theorem dX3_joined_68 : decode cX3_joined 68 = .ok (.iconst 1, 1) := by decide +kernel
theorem dX3_joined_69 : decode cX3_joined 69 = .ok (.goto 4, 3) := by decide +kernel
theorem dX3_joined_72 : decode cX3_joined 72 = .ok (.iconst 0, 1) := by decide +kernel
theorem dX3_joined_73 : decode cX3_joined 73 = .ok (.ireturn, 1) := by decide +kernel
theorem dX3_joined_74 : decode cX3_joined 74 = .ok (.iload_n 1, 1) := by decide +kernel
theorem dX3_joined_75 : decode cX3_joined 75 = .ok (.ifCond .eq 11, 3) := by decide +kernel
theorem dX3_joined_78 : decode cX3_joined 78 = .ok (.iload_n 2, 1) := by decide +kernel
theorem dX3_joined_79 : decode cX3_joined 79 = .ok (.ifCond .eq 7, 3) := by decide +kernel
theorem dX3_joined_82 : decode cX3_joined 82 = .ok (.iconst 1, 1) := by decide +kernel
theorem dX3_joined_83 : decode cX3_joined 83 = .ok (.goto 4, 3) := by decide +kernel
theorem dX3_joined_86 : decode cX3_joined 86 = .ok (.iconst 0, 1) := by decide +kernel
theorem dX3_joined_87 : decode cX3_joined 87 = .ok (.ireturn, 1) := by decide +kernel
theorem dX3_joined_88 : decode cX3_joined 88 = .ok (.iload_n 1, 1) := by decide +kernel
theorem dX3_joined_89 : decode cX3_joined 89 = .ok (.iload_n 2, 1) := by decide +kernel
theorem dX3_joined_90 : decode cX3_joined 90 = .ok (.if_icmp .ge 7, 3) := by decide +kernel
theorem dX3_joined_93 : decode cX3_joined 93 = .ok (.iconst 1, 1) := by decide +kernel
theorem dX3_joined_94 : decode cX3_joined 94 = .ok (.goto 4, 3) := by decide +kernel
theorem dX3_joined_97 : decode cX3_joined 97 = .ok (.iconst 0, 1) := by decide +kernel
theorem dX3_joined_98 : decode cX3_joined 98 = .ok (.ireturn, 1) := by decide +kernel
theorem dX3_joined_99 : decode cX3_joined 99 = .ok (.iload_n 1, 1) := by decide +kernel
theorem dX3_joined_100 : decode cX3_joined 100 = .ok (.iload_n 2, 1) := by decide +kernel
theorem dX3_joined_101 : decode cX3_joined 101 = .ok (.if_icmp .ne 7, 3) := by decide +kernel
theorem dX3_joined_104 : decode cX3_joined 104 = .ok (.iconst 1, 1) := by decide +kernel
theorem dX3_joined_105 : decode cX3_joined 105 = .ok (.goto 4, 3) := by decide +kernel
theorem dX3_joined_108 : decode cX3_joined 108 = .ok (.iconst 0, 1) := by decide +kernel
theorem dX3_joined_109 : decode cX3_joined 109 = .ok (.ireturn, 1) := by decide +kernel
theorem dX3_joined_110 : decode cX3_joined 110 = .ok (.iload_n 1, 1) := by decide +kernel
theorem dX3_joined_111 : decode cX3_joined 111 = .ok (.iload_n 2, 1) := by decide +kernel
theorem dX3_joined_112 : decode cX3_joined 112 = .ok (.iadd, 1) := by decide +kernel
theorem dX3_joined_113 : decode cX3_joined 113 = .ok (.ireturn, 1) := by decide +kernel
theorem dX3_joined_114 : decode cX3_joined 114 = .ok (.iload_n 1, 1) := by decide +kernel
theorem dX3_joined_115 : decode cX3_joined 115 = .ok (.iload_n 2, 1) := by decide +kernel
theorem dX3_joined_116 : decode cX3_joined 116 = .ok (.isub, 1) := by decide +kernel
theorem dX3_joined_117 : decode cX3_joined 117 = .ok (.ireturn, 1) := by decide +kernel
theorem dX3_joined_118 : decode cX3_joined 118 = .ok (.iload_n 1, 1) := by decide +kernel
theorem dX3_joined_119 : decode cX3_joined 119 = .ok (.iload_n 2, 1) := by decide +kernel
theorem dX3_joined_120 : decode cX3_joined 120 = .ok (.imul, 1) := by decide +kernel
theorem dX3_joined_121 : decode cX3_joined 121 = .ok (.ireturn, 1) := by decide +kernel
theorem dX4_init_0 : decode cX4_init 0 = .ok (.aload_n 0, 1) := by decide +kernel
theorem dX4_init_1 : decode cX4_init 1 = .ok (.invokespecial 3, 3) := by decide +kernel
theorem dX4_init_4 : decode cX4_init 4 = .ok (.aload_n 0, 1) := by decide +kernel
theorem dX4_init_5 : decode cX4_init 5 = .ok (.iconst 5, 1) := by decide +kernel
theorem dX4_init_6 : decode cX4_init 6 = .ok (.newarray .int, 2) := by decide +kernel
theorem dX4_init_8 : decode cX4_init 8 = .ok (.putfield 9, 3) := by decide +kernel
theorem dX4_init_11 : decode cX4_init 11 = .ok (.aload_n 0, 1) := by decide +kernel
theorem dX4_init_12 : decode cX4_init 12 = .ok (.iconst 5, 1) := by decide +kernel
theorem dX4_init_13 : decode cX4_init 13 = .ok (.newarray .int, 2) := by decide +kernel
theorem dX4_init_15 : decode cX4_init 15 = .ok (.putfield 15, 3) := by decide +kernel
theorem dX4_init_18 : decode cX4_init 18 = .ok (.aload_n 0, 1) := by decide +kernel
theorem dX4_init_19 : decode cX4_init 19 = .ok (.iconst 5, 1) := by decide +kernel
theorem dX4_init_20 : decode cX4_init 20 = .ok (.newarray .int, 2) := by decide +kernel
theorem dX4_init_22 : decode cX4_init 22 = .ok (.putfield 18, 3) := by decide +kernel
theorem dX4_init_25 : decode cX4_init 25 = .ok (.aload_n 0, 1) := by decide +kernel
theorem dX4_init_26 : decode cX4_init 26 = .ok (.iconst 5, 1) := by decide +kernel
theorem dX4_init_27 : decode cX4_init 27 = .ok (.newarray .int, 2) := by decide +kernel
theorem dX4_init_29 : decode cX4_init 29 = .ok (.putfield 21, 3) := by decide +kernel
theorem dX4_init_32 : decode cX4_init 32 = .ok (.aload_n 0, 1) := by decide +kernel
theorem dX4_init_33 : decode cX4_init 33 = .ok (.iconst 5, 1) := by decide +kernel
theorem dX4_init_34 : decode cX4_init 34 = .ok (.newarray .int, 2) := by decide +kernel
theorem dX4_init_36 : decode cX4_init 36 = .ok (.putfield 24, 3) := by decide +kernel
theorem dX4_init_39 : decode cX4_init 39 = .ok (.aload_n 0, 1) := by decide +kernel
theorem dX4_init_40 : decode cX4_init 40 = .ok (.bipush 6, 2) := by decide +kernel
theorem dX4_init_42 : decode cX4_init 42 = .ok (.newarray .int, 2) := by decide +kernel
theorem dX4_init_44 : decode cX4_init 44 = .ok (.putfield 27, 3) := by decide +kernel
theorem dX4_init_47 : decode cX4_init 47 = .ok (.aload_n 0, 1) := by decide +kernel
theorem dX4_init_48 : decode cX4_init 48 = .ok (.aload_n 1, 1) := by decide +kernel
theorem dX4_init_49 : decode cX4_init 49 = .ok (.putfield 30, 3) := by decide +kernel
theorem dX4_init_52 : decode cX4_init 52 = .ok (.return_, 1) := by decide +kernel
theorem dX4_become_0 : decode cX4_become 0 = .ok (.aload_n 0, 1) := by decide +kernel
theorem dX4_become_1 : decode cX4_become 1 = .ok (.aload_n 1, 1) := by decide +kernel
theorem dX4_become_2 : decode cX4_become 2 = .ok (.getfield 34, 3) := by decide +kernel
theorem dX4_become_5 : decode cX4_become 5 = .ok (.putfield 34, 3) := by decide +kernel
theorem dX4_become_8 : decode cX4_become 8 = .ok (.aload_n 0, 1) := by decide +kernel
theorem dX4_become_9 : decode cX4_become 9 = .ok (.aload_n 1, 1) := by decide +kernel
theorem dX4_become_10 : decode cX4_become 10 = .ok (.getfield 38, 3) := by decide +kernel
theorem dX4_become_13 : decode cX4_become 13 = .ok (.putfield 38, 3) := by decide +kernel
theorem dX4_become_16 : decode cX4_become 16 = .ok (.aload_n 0, 1) := by decide +kernel
theorem dX4_become_17 : decode cX4_become 17 = .ok (.aload_n 1, 1) := by decide +kernel
theorem dX4_become_18 : decode cX4_become 18 = .ok (.getfield 41, 3) := by decide +kernel
theorem dX4_become_21 : decode cX4_become 21 = .ok (.putfield 41, 3) := by decide +kernel
theorem dX4_become_24 : decode cX4_become 24 = .ok (.aload_n 0, 1) := by decide +kernel
theorem dX4_become_25 : decode cX4_become 25 = .ok (.aload_n 1, 1) := by decide +kernel
theorem dX4_become_26 : decode cX4_become 26 = .ok (.getfield 44, 3) := by decide +kernel
theorem dX4_become_29 : decode cX4_become 29 = .ok (.putfield 44, 3) := by decide +kernel
theorem dX4_become_32 : decode cX4_become 32 = .ok (.iconst 0, 1) := by decide +kernel
theorem dX4_become_33 : decode cX4_become 33 = .ok (.istore_n 2, 1) := by decide +kernel
theorem dX4_become_34 : decode cX4_become 34 = .ok (.iload_n 2, 1) := by decide +kernel
theorem dX4_become_35 : decode cX4_become 35 = .ok (.iconst 5, 1) := by decide +kernel
theorem dX4_become_36 : decode cX4_become 36 = .ok (.if_icmp .ge 57, 3) := by decide +kernel
theorem dX4_become_39 : decode cX4_become 39 = .ok (.aload_n 0, 1) := by decide +kernel
theorem dX4_become_40 : decode cX4_become 40 = .ok (.getfield 9, 3) := by decide +kernel
theorem dX4_become_43 : decode cX4_become 43 = .ok (.iload_n 2, 1) := by decide +kernel
theorem dX4_become_44 : decode cX4_become 44 = .ok (.aload_n 1, 1) := by decide +kernel
theorem dX4_become_45 : decode cX4_become 45 = .ok (.getfield 9, 3) := by decide +kernel
theorem dX4_become_48 : decode cX4_become 48 = .ok (.iload_n 2, 1) := by decide +kernel
theorem dX4_become_49 : decode cX4_become 49 = .ok (.iaload, 1) := by decide +kernel
theorem dX4_become_50 : decode cX4_become 50 = .ok (.iastore, 1) := by decide +kernel
theorem dX4_become_51 : decode cX4_become 51 = .ok (.aload_n 0, 1) := by decide +kernel
theorem dX4_become_52 : decode cX4_become 52 = .ok (.getfield 15, 3) := by decide +kernel
theorem dX4_become_55 : decode cX4_become 55 = .ok (.iload_n 2, 1) := by decide +kernel
theorem dX4_become_56 : decode cX4_become 56 = .ok (.aload_n 1, 1) := by decide +kernel
theorem dX4_become_57 : decode cX4_become 57 = .ok (.getfield 15, 3) := by decide +kernel
theorem dX4_become_60 : decode cX4_become 60 = .ok (.iload_n 2, 1) := by decide +kernel
theorem dX4_become_61 : decode cX4_become 61 = .ok (.iaload, 1) := by decide +kernel
theorem dX4_become_62 : decode cX4_become 62 = .ok (.iastore, 1) := by decide +kernel
theorem dX4_become_63 : decode cX4_become 63 = .ok (.aload_n 0, 1) := by decide +kernel
theorem dX4_become_64 : decode cX4_become 64 = .ok (.getfield 18, 3) := by decide +kernel
theorem dX4_become_67 : decode cX4_become 67 = .ok (.iload_n 2, 1) := by decide +kernel
theorem dX4_become_68 : decode cX4_become 68 = .ok (.aload_n 1, 1) := by decide +kernel
theorem dX4_become_69 : decode cX4_become 69 = .ok (.getfield 18, 3) := by decide +kernel
theorem dX4_become_72 : decode cX4_become 72 = .ok (.iload_n 2, 1) := by decide +kernel
theorem dX4_become_73 : decode cX4_become 73 = .ok (.iaload, 1) := by decide +kernel
theorem dX4_become_74 : decode cX4_become 74 = .ok (.iastore, 1) := by decide +kernel
theorem dX4_become_75 : decode cX4_become 75 = .ok (.aload_n 0, 1) := by decide +kernel
theorem dX4_become_76 : decode cX4_become 76 = .ok (.getfield 21, 3) := by decide +kernel
theorem dX4_become_79 : decode cX4_become 79 = .ok (.iload_n 2, 1) := by decide +kernel
theorem dX4_become_80 : decode cX4_become 80 = .ok (.aload_n 1, 1) := by decide +kernel
theorem dX4_become_81 : decode cX4_become 81 = .ok (.getfield 21, 3) := by decide +kernel
theorem dX4_become_84 : decode cX4_become 84 = .ok (.iload_n 2, 1) := by decide +kernel
theorem dX4_become_85 : decode cX4_become 85 = .ok (.iaload, 1) := by decide +kernel
theorem dX4_become_86 : decode cX4_become 86 = .ok (.iastore, 1) := by decide +kernel
theorem dX4_become_87 : decode cX4_become 87 = .ok (.iinc 2 1, 3) := by decide +kernel
theorem dX4_become_90 : decode cX4_become 90 = .ok (.goto (-56), 3) := by decide +kernel
theorem dX4_become_93 : decode cX4_become 93 = .ok (.return_, 1) := by decide +kernel
theorem dX4_canBe_0 : decode cX4_canBe 0 = .ok (.iload_n 0, 1) := by decide +kernel
theorem dX4_canBe_1 : decode cX4_canBe 1 = .ok (.iconst 0, 1) := by decide +kernel
theorem dX4_canBe_2 : decode cX4_canBe 2 = .ok (.iconst 5, 1) := by decide +kernel
theorem dX4_canBe_3 : decode cX4_canBe 3 = .ok (.invokestatic 47, 3) := by decide +kernel
theorem dX4_canBe_6 : decode cX4_canBe 6 = .ok (.ifCond .eq 28, 3) := by decide +kernel
theorem dX4_canBe_9 : decode cX4_canBe 9 = .ok (.iload_n 1, 1) := by decide +kernel
theorem dX4_canBe_10 : decode cX4_canBe 10 = .ok (.iconst 0, 1) := by decide +kernel
theorem dX4_canBe_11 : decode cX4_canBe 11 = .ok (.bipush 9, 2) := by decide +kernel
theorem dX4_canBe_13 : decode cX4_canBe 13 = .ok (.invokestatic 47, 3) := by decide +kernel
theorem dX4_canBe_16 : decode cX4_canBe 16 = .ok (.ifCond .eq 18, 3) := by decide +kernel
theorem dX4_canBe_19 : decode cX4_canBe 19 = .ok (.iload_n 2, 1) := by decide +kernel
theorem dX4_canBe_20 : decode cX4_canBe 20 = .ok (.iconst 0, 1) := by decide +kernel
theorem dX4_canBe_21 : decode cX4_canBe 21 = .ok (.sipush 999, 3) := by decide +kernel
theorem dX4_canBe_24 : decode cX4_canBe 24 = .ok (.invokestatic 47, 3) := by decide +kernel
theorem dX4_canBe_27 : decode cX4_canBe 27 = .ok (.ifCond .eq 7, 3) := by decide +kernel
theorem dX4_canBe_30 : decode cX4_canBe 30 = .ok (.iconst 1, 1) := by decide +kernel
theorem dX4_canBe_31 : decode cX4_canBe 31 = .ok (.goto 4, 3) := by decide +kernel
theorem dX4_canBe_34 : decode cX4_canBe 34 = .ok (.iconst 0, 1) := by decide +kernel
theorem dX4_canBe_35 : decode cX4_canBe 35 = .ok (.ireturn, 1) := by decide +kernel
theorem dX4_come_0 : decode cX4_come 0 = .ok (.aload_n 0, 1) := by decide +kernel
theorem dX4_come_1 : decode cX4_come 1 = .ok (.getfield 34, 3) := by decide +kernel
theorem dX4_come_4 : decode cX4_come 4 = .ok (.iconst 5, 1) := by decide +kernel
theorem dX4_come_5 : decode cX4_come 5 = .ok (.if_icmp .lt 6, 3) := by decide +kernel
theorem dX4_come_8 : decode cX4_come 8 = .ok (.bipush (-4), 2) := by decide +kernel
theorem dX4_come_10 : decode cX4_come 10 = .ok (.ireturn, 1) := by decide +kernel
theorem dX4_come_11 : decode cX4_come 11 = .ok (.aload_n 0, 1) := by decide +kernel
theorem dX4_come_12 : decode cX4_come 12 = .ok (.getfield 9, 3) := by decide +kernel
theorem dX4_come_15 : decode cX4_come 15 = .ok (.aload_n 0, 1) := by decide +kernel
theorem dX4_come_16 : decode cX4_come 16 = .ok (.getfield 34, 3) := by decide +kernel
theorem dX4_come_19 : decode cX4_come 19 = .ok (.iload_n 1, 1) := by decide +kernel
theorem dX4_come_20 : decode cX4_come 20 = .ok (.iastore, 1) := by decide +kernel
theorem dX4_come_21 : decode cX4_come 21 = .ok (.aload_n 0, 1) := by decide +kernel
theorem dX4_come_22 : decode cX4_come 22 = .ok (.getfield 15, 3) := by decide +kernel
theorem dX4_come_25 : decode cX4_come 25 = .ok (.aload_n 0, 1) := by decide +kernel
theorem dX4_come_26 : decode cX4_come 26 = .ok (.getfield 34, 3) := by decide +kernel
theorem dX4_come_29 : decode cX4_come 29 = .ok (.iload_n 2, 1) := by decide +kernel
theorem dX4_come_30 : decode cX4_come 30 = .ok (.iastore, 1) := by decide +kernel
theorem dX4_come_31 : decode cX4_come 31 = .ok (.aload_n 0, 1) := by decide +kernel
theorem dX4_come_32 : decode cX4_come 32 = .ok (.getfield 18, 3) := by decide +kernel
theorem dX4_come_35 : decode cX4_come 35 = .ok (.aload_n 0, 1) := by decide +kernel
theorem dX4_come_36 : decode cX4_come 36 = .ok (.getfield 34, 3) := by decide +kernel
theorem dX4_come_39 : decode cX4_come 39 = .ok (.iload_n 3, 1) := by decide +kernel
theorem dX4_come_40 : decode cX4_come 40 = .ok (.iastore, 1) := by decide +kernel
theorem dX4_come_41 : decode cX4_come 41 = .ok (.aload_n 0, 1) := by decide +kernel
theorem dX4_come_42 : decode cX4_come 42 = .ok (.getfield 21, 3) := by decide +kernel
theorem dX4_come_45 : decode cX4_come 45 = .ok (.aload_n 0, 1) := by decide +kernel
theorem dX4_come_46 : decode cX4_come 46 = .ok (.getfield 34, 3) := by decide +kernel
theorem dX4_come_49 : decode cX4_come 49 = .ok (.iconst 0, 1) := by decide +kernel
theorem dX4_come_50 : decode cX4_come 50 = .ok (.iastore, 1) := by decide +kernel
theorem dX4_come_51 : decode cX4_come 51 = .ok (.aload_n 0, 1) := by decide +kernel
theorem dX4_come_52 : decode cX4_come 52 = .ok (.dup, 1) := by decide +kernel
theorem dX4_come_53 : decode cX4_come 53 = .ok (.getfield 34, 3) := by decide +kernel
theorem dX4_come_56 : decode cX4_come 56 = .ok (.iconst 1, 1) := by decide +kernel
theorem dX4_come_57 : decode cX4_come 57 = .ok (.iadd, 1) := by decide +kernel
theorem dX4_come_58 : decode cX4_come 58 = .ok (.putfield 34, 3) := by decide +kernel
theorem dX4_come_61 : decode cX4_come 61 = .ok (.aload_n 0, 1) := by decide +kernel
theorem dX4_come_62 : decode cX4_come 62 = .ok (.getfield 34, 3) := by decide +kernel
theorem dX4_come_65 : decode cX4_come 65 = .ok (.iconst 1, 1) := by decide +kernel
theorem dX4_come_66 : decode cX4_come 66 = .ok (.isub, 1) := by decide +kernel
theorem dX4_come_67 : decode cX4_come 67 = .ok (.ireturn, 1) := by decide +kernel
theorem dX4_has_0 : decode cX4_has 0 = .ok (.iload_n 1, 1) := by decide +kernel
theorem dX4_has_1 : decode cX4_has 1 = .ok (.ifCond .lt 15, 3) := by decide +kernel
theorem dX4_has_4 : decode cX4_has 4 = .ok (.iload_n 1, 1) := by decide +kernel
theorem dX4_has_5 : decode cX4_has 5 = .ok (.aload_n 0, 1) := by decide +kernel
theorem dX4_has_6 : decode cX4_has 6 = .ok (.getfield 34, 3) := by decide +kernel
theorem dX4_has_9 : decode cX4_has 9 = .ok (.if_icmp .ge 7, 3) := by decide +kernel
theorem dX4_has_12 : decode cX4_has 12 = .ok (.iconst 1, 1) := by decide +kernel
theorem dX4_has_13 : decode cX4_has 13 = .ok (.goto 4, 3) := by decide +kernel
theorem dX4_has_16 : decode cX4_has 16 = .ok (.iconst 0, 1) := by decide +kernel
theorem dX4_has_17 : decode cX4_has 17 = .ok (.ireturn, 1) := by decide +kernel
theorem dX4_runsOf_0 : decode cX4_runsOf 0 = .ok (.aload_n 0, 1) := by decide +kernel
theorem dX4_runsOf_1 : decode cX4_runsOf 1 = .ok (.iconst 0, 1) := by decide +kernel
theorem dX4_runsOf_2 : decode cX4_runsOf 2 = .ok (.iload_n 1, 1) := by decide +kernel
theorem dX4_runsOf_3 : decode cX4_runsOf 3 = .ok (.invokevirtual 51, 3) := by decide +kernel
theorem dX4_runsOf_6 : decode cX4_runsOf 6 = .ok (.iconst 0, 1) := by decide +kernel
theorem dX4_runsOf_7 : decode cX4_runsOf 7 = .ok (.bipush 99, 2) := by decide +kernel
theorem dX4_runsOf_9 : decode cX4_runsOf 9 = .ok (.invokestatic 55, 3) := by decide +kernel
theorem dX4_runsOf_12 : decode cX4_runsOf 12 = .ok (.istore_n 2, 1) := by decide +kernel
theorem dX4_runsOf_13 : decode cX4_runsOf 13 = .ok (.aload_n 0, 1) := by decide +kernel
theorem dX4_runsOf_14 : decode cX4_runsOf 14 = .ok (.getfield 9, 3) := by decide +kernel
theorem dX4_runsOf_17 : decode cX4_runsOf 17 = .ok (.iload_n 1, 1) := by decide +kernel
theorem dX4_runsOf_18 : decode cX4_runsOf 18 = .ok (.iaload, 1) := by decide +kernel
theorem dX4_runsOf_19 : decode cX4_runsOf 19 = .ok (.tableswitch 102 1 5 #[33, 40, 47, 64, 92], 33) := by decide +kernel
theorem dX4_runsOf_52 : decode cX4_runsOf 52 = .ok (.iload_n 2, 1) := by decide +kernel
theorem dX4_runsOf_53 : decode cX4_runsOf 53 = .ok (.iconst 1, 1) := by decide +kernel
theorem dX4_runsOf_54 : decode cX4_runsOf 54 = .ok (.iadd, 1) := by decide +kernel
theorem dX4_runsOf_55 : decode cX4_runsOf 55 = .ok (.istore_n 3, 1) := by decide +kernel
theorem dX4_runsOf_56 : decode cX4_runsOf 56 = .ok (.goto 67, 3) := by decide +kernel
theorem dX4_runsOf_59 : decode cX4_runsOf 59 = .ok (.iload_n 2, 1) := by decide +kernel
theorem dX4_runsOf_60 : decode cX4_runsOf 60 = .ok (.iconst 2, 1) := by decide +kernel
theorem dX4_runsOf_61 : decode cX4_runsOf 61 = .ok (.idiv, 1) := by decide +kernel
theorem dX4_runsOf_62 : decode cX4_runsOf 62 = .ok (.istore_n 3, 1) := by decide +kernel
theorem dX4_runsOf_63 : decode cX4_runsOf 63 = .ok (.goto 60, 3) := by decide +kernel
theorem dX4_runsOf_66 : decode cX4_runsOf 66 = .ok (.iload_n 2, 1) := by decide +kernel
theorem dX4_runsOf_67 : decode cX4_runsOf 67 = .ok (.iconst 1, 1) := by decide +kernel
theorem dX4_runsOf_68 : decode cX4_runsOf 68 = .ok (.iadd, 1) := by decide +kernel
theorem dX4_runsOf_69 : decode cX4_runsOf 69 = .ok (.aload_n 0, 1) := by decide +kernel
theorem dX4_runsOf_70 : decode cX4_runsOf 70 = .ok (.getfield 21, 3) := by decide +kernel
theorem dX4_runsOf_73 : decode cX4_runsOf 73 = .ok (.iload_n 1, 1) := by decide +kernel
theorem dX4_runsOf_74 : decode cX4_runsOf 74 = .ok (.iaload, 1) := by decide +kernel
theorem dX4_runsOf_75 : decode cX4_runsOf 75 = .ok (.bipush 10, 2) := by decide +kernel
theorem dX4_runsOf_77 : decode cX4_runsOf 77 = .ok (.idiv, 1) := by decide +kernel
theorem dX4_runsOf_78 : decode cX4_runsOf 78 = .ok (.isub, 1) := by decide +kernel
theorem dX4_runsOf_79 : decode cX4_runsOf 79 = .ok (.istore_n 3, 1) := by decide +kernel
theorem dX4_runsOf_80 : decode cX4_runsOf 80 = .ok (.goto 43, 3) := by decide +kernel
theorem dX4_runsOf_83 : decode cX4_runsOf 83 = .ok (.aload_n 0, 1) := by decide +kernel
theorem dX4_runsOf_84 : decode cX4_runsOf 84 = .ok (.getfield 38, 3) := by decide +kernel
theorem dX4_runsOf_87 : decode cX4_runsOf 87 = .ok (.bipush 7, 2) := by decide +kernel
theorem dX4_runsOf_89 : decode cX4_runsOf 89 = .ok (.irem, 1) := by decide +kernel
theorem dX4_runsOf_90 : decode cX4_runsOf 90 = .ok (.aload_n 0, 1) := by decide +kernel
theorem dX4_runsOf_91 : decode cX4_runsOf 91 = .ok (.getfield 15, 3) := by decide +kernel
theorem dX4_runsOf_94 : decode cX4_runsOf 94 = .ok (.iload_n 1, 1) := by decide +kernel
theorem dX4_runsOf_95 : decode cX4_runsOf 95 = .ok (.iaload, 1) := by decide +kernel
theorem dX4_runsOf_96 : decode cX4_runsOf 96 = .ok (.if_icmp .ne 8, 3) := by decide +kernel
theorem dX4_runsOf_99 : decode cX4_runsOf 99 = .ok (.bipush 9, 2) := by decide +kernel
theorem dX4_runsOf_101 : decode cX4_runsOf 101 = .ok (.goto 6, 3) := by decide +kernel
theorem dX4_runsOf_104 : decode cX4_runsOf 104 = .ok (.iload_n 2, 1) := by decide +kernel
theorem dX4_runsOf_105 : decode cX4_runsOf 105 = .ok (.iconst 2, 1) := by decide +kernel
theorem dX4_runsOf_106 : decode cX4_runsOf 106 = .ok (.idiv, 1) := by decide +kernel
theorem dX4_runsOf_107 : decode cX4_runsOf 107 = .ok (.istore_n 3, 1) := by decide +kernel
theorem dX4_runsOf_108 : decode cX4_runsOf 108 = .ok (.goto 15, 3) := by decide +kernel
theorem dX4_runsOf_111 : decode cX4_runsOf 111 = .ok (.aload_n 0, 1) := by decide +kernel
theorem dX4_runsOf_112 : decode cX4_runsOf 112 = .ok (.getfield 15, 3) := by decide +kernel
theorem dX4_runsOf_115 : decode cX4_runsOf 115 = .ok (.iload_n 1, 1) := by decide +kernel
theorem dX4_runsOf_116 : decode cX4_runsOf 116 = .ok (.iaload, 1) := by decide +kernel
theorem dX4_runsOf_117 : decode cX4_runsOf 117 = .ok (.istore_n 3, 1) := by decide +kernel
theorem dX4_runsOf_118 : decode cX4_runsOf 118 = .ok (.goto 5, 3) := by decide +kernel
theorem dX4_runsOf_121 : decode cX4_runsOf 121 = .ok (.iload_n 2, 1) := by decide +kernel
theorem dX4_runsOf_122 : decode cX4_runsOf 122 = .ok (.istore_n 3, 1) := by decide +kernel
theorem dX4_runsOf_123 : decode cX4_runsOf 123 = .ok (.iload_n 3, 1) := by decide +kernel
theorem dX4_runsOf_124 : decode cX4_runsOf 124 = .ok (.iconst 0, 1) := by decide +kernel
theorem dX4_runsOf_125 : decode cX4_runsOf 125 = .ok (.bipush 9, 2) := by decide +kernel
theorem dX4_runsOf_127 : decode cX4_runsOf 127 = .ok (.invokestatic 55, 3) := by decide +kernel
theorem dX4_runsOf_130 : decode cX4_runsOf 130 = .ok (.ireturn, 1) := by decide +kernel
theorem dX4_clogsOf_0 : decode cX4_clogsOf 0 = .ok (.aload_n 0, 1) := by decide +kernel
theorem dX4_clogsOf_1 : decode cX4_clogsOf 1 = .ok (.iconst 1, 1) := by decide +kernel
theorem dX4_clogsOf_2 : decode cX4_clogsOf 2 = .ok (.iload_n 1, 1) := by decide +kernel
theorem dX4_clogsOf_3 : decode cX4_clogsOf 3 = .ok (.invokevirtual 51, 3) := by decide +kernel
theorem dX4_clogsOf_6 : decode cX4_clogsOf 6 = .ok (.ifCond .eq 7, 3) := by decide +kernel
theorem dX4_clogsOf_9 : decode cX4_clogsOf 9 = .ok (.iconst 1, 1) := by decide +kernel
theorem dX4_clogsOf_10 : decode cX4_clogsOf 10 = .ok (.goto 4, 3) := by decide +kernel
theorem dX4_clogsOf_13 : decode cX4_clogsOf 13 = .ok (.iconst 0, 1) := by decide +kernel
theorem dX4_clogsOf_14 : decode cX4_clogsOf 14 = .ok (.istore_n 2, 1) := by decide +kernel
theorem dX4_clogsOf_15 : decode cX4_clogsOf 15 = .ok (.aload_n 0, 1) := by decide +kernel
theorem dX4_clogsOf_16 : decode cX4_clogsOf 16 = .ok (.getfield 9, 3) := by decide +kernel
theorem dX4_clogsOf_19 : decode cX4_clogsOf 19 = .ok (.iload_n 1, 1) := by decide +kernel
theorem dX4_clogsOf_20 : decode cX4_clogsOf 20 = .ok (.iaload, 1) := by decide +kernel
theorem dX4_clogsOf_21 : decode cX4_clogsOf 21 = .ok (.tableswitch 80 1 4 #[31, 78, 49, 78], 31) := by decide +kernel
theorem dX4_clogsOf_52 : decode cX4_clogsOf 52 = .ok (.iload_n 2, 1) := by decide +kernel
theorem dX4_clogsOf_53 : decode cX4_clogsOf 53 = .ok (.ifCond .eq 15, 3) := by decide +kernel
theorem dX4_clogsOf_56 : decode cX4_clogsOf 56 = .ok (.aload_n 0, 1) := by decide +kernel
theorem dX4_clogsOf_57 : decode cX4_clogsOf 57 = .ok (.getfield 41, 3) := by decide +kernel
theorem dX4_clogsOf_60 : decode cX4_clogsOf 60 = .ok (.iconst 3, 1) := by decide +kernel
theorem dX4_clogsOf_61 : decode cX4_clogsOf 61 = .ok (.if_icmp .le 7, 3) := by decide +kernel
theorem dX4_clogsOf_64 : decode cX4_clogsOf 64 = .ok (.iconst 1, 1) := by decide +kernel
theorem dX4_clogsOf_65 : decode cX4_clogsOf 65 = .ok (.goto 4, 3) := by decide +kernel
theorem dX4_clogsOf_68 : decode cX4_clogsOf 68 = .ok (.iconst 0, 1) := by decide +kernel
theorem dX4_clogsOf_69 : decode cX4_clogsOf 69 = .ok (.ireturn, 1) := by decide +kernel
theorem dX4_clogsOf_70 : decode cX4_clogsOf 70 = .ok (.iload_n 2, 1) := by decide +kernel
theorem dX4_clogsOf_71 : decode cX4_clogsOf 71 = .ok (.ifCond .eq 11, 3) := by decide +kernel
theorem dX4_clogsOf_74 : decode cX4_clogsOf 74 = .ok (.aload_n 0, 1) := by decide +kernel
theorem dX4_clogsOf_75 : decode cX4_clogsOf 75 = .ok (.getfield 41, 3) := by decide +kernel
theorem dX4_clogsOf_78 : decode cX4_clogsOf 78 = .ok (.iconst 3, 1) := by decide +kernel
theorem dX4_clogsOf_79 : decode cX4_clogsOf 79 = .ok (.if_icmp .gt 14, 3) := by decide +kernel
theorem dX4_clogsOf_82 : decode cX4_clogsOf 82 = .ok (.aload_n 0, 1) := by decide +kernel
theorem dX4_clogsOf_83 : decode cX4_clogsOf 83 = .ok (.getfield 21, 3) := by decide +kernel
theorem dX4_clogsOf_86 : decode cX4_clogsOf 86 = .ok (.iload_n 1, 1) := by decide +kernel
theorem dX4_clogsOf_87 : decode cX4_clogsOf 87 = .ok (.iaload, 1) := by decide +kernel
theorem dX4_clogsOf_88 : decode cX4_clogsOf 88 = .ok (.bipush 50, 2) := by decide +kernel
theorem dX4_clogsOf_90 : decode cX4_clogsOf 90 = .ok (.if_icmp .le 7, 3) := by decide +kernel
theorem dX4_clogsOf_93 : decode cX4_clogsOf 93 = .ok (.iconst 1, 1) := by decide +kernel
theorem dX4_clogsOf_94 : decode cX4_clogsOf 94 = .ok (.goto 4, 3) := by decide +kernel
theorem dX4_clogsOf_97 : decode cX4_clogsOf 97 = .ok (.iconst 0, 1) := by decide +kernel
theorem dX4_clogsOf_98 : decode cX4_clogsOf 98 = .ok (.ireturn, 1) := by decide +kernel
theorem dX4_clogsOf_99 : decode cX4_clogsOf 99 = .ok (.iconst 0, 1) := by decide +kernel
theorem dX4_clogsOf_100 : decode cX4_clogsOf 100 = .ok (.ireturn, 1) := by decide +kernel
theorem dX4_clogsOf_101 : decode cX4_clogsOf 101 = .ok (.iload_n 2, 1) := by decide +kernel
theorem dX4_clogsOf_102 : decode cX4_clogsOf 102 = .ok (.ireturn, 1) := by decide +kernel
theorem dX4_ruesOf_0 : decode cX4_ruesOf 0 = .ok (.aload_n 0, 1) := by decide +kernel
theorem dX4_ruesOf_1 : decode cX4_ruesOf 1 = .ok (.iconst 2, 1) := by decide +kernel
theorem dX4_ruesOf_2 : decode cX4_ruesOf 2 = .ok (.iload_n 1, 1) := by decide +kernel
theorem dX4_ruesOf_3 : decode cX4_ruesOf 3 = .ok (.invokevirtual 51, 3) := by decide +kernel
theorem dX4_ruesOf_6 : decode cX4_ruesOf 6 = .ok (.iconst 0, 1) := by decide +kernel
theorem dX4_ruesOf_7 : decode cX4_ruesOf 7 = .ok (.bipush 99, 2) := by decide +kernel
theorem dX4_ruesOf_9 : decode cX4_ruesOf 9 = .ok (.invokestatic 55, 3) := by decide +kernel
theorem dX4_ruesOf_12 : decode cX4_ruesOf 12 = .ok (.istore_n 2, 1) := by decide +kernel
theorem dX4_ruesOf_13 : decode cX4_ruesOf 13 = .ok (.aload_n 0, 1) := by decide +kernel
theorem dX4_ruesOf_14 : decode cX4_ruesOf 14 = .ok (.getfield 9, 3) := by decide +kernel
theorem dX4_ruesOf_17 : decode cX4_ruesOf 17 = .ok (.iload_n 1, 1) := by decide +kernel
theorem dX4_ruesOf_18 : decode cX4_ruesOf 18 = .ok (.iaload, 1) := by decide +kernel
theorem dX4_ruesOf_19 : decode cX4_ruesOf 19 = .ok (.tableswitch 73 1 5 #[33, 40, 45, 59, 64], 33) := by decide +kernel
theorem dX4_ruesOf_52 : decode cX4_ruesOf 52 = .ok (.iconst 2, 1) := by decide +kernel
theorem dX4_ruesOf_53 : decode cX4_ruesOf 53 = .ok (.iload_n 2, 1) := by decide +kernel
theorem dX4_ruesOf_54 : decode cX4_ruesOf 54 = .ok (.imul, 1) := by decide +kernel
theorem dX4_ruesOf_55 : decode cX4_ruesOf 55 = .ok (.istore_n 3, 1) := by decide +kernel
theorem dX4_ruesOf_56 : decode cX4_ruesOf 56 = .ok (.goto 38, 3) := by decide +kernel
theorem dX4_ruesOf_59 : decode cX4_ruesOf 59 = .ok (.iconst 0, 1) := by decide +kernel
theorem dX4_ruesOf_60 : decode cX4_ruesOf 60 = .ok (.istore_n 3, 1) := by decide +kernel
theorem dX4_ruesOf_61 : decode cX4_ruesOf 61 = .ok (.goto 33, 3) := by decide +kernel
theorem dX4_ruesOf_64 : decode cX4_ruesOf 64 = .ok (.iconst 2, 1) := by decide +kernel
theorem dX4_ruesOf_65 : decode cX4_ruesOf 65 = .ok (.iload_n 2, 1) := by decide +kernel
theorem dX4_ruesOf_66 : decode cX4_ruesOf 66 = .ok (.imul, 1) := by decide +kernel
theorem dX4_ruesOf_67 : decode cX4_ruesOf 67 = .ok (.aload_n 0, 1) := by decide +kernel
theorem dX4_ruesOf_68 : decode cX4_ruesOf 68 = .ok (.getfield 15, 3) := by decide +kernel
theorem dX4_ruesOf_71 : decode cX4_ruesOf 71 = .ok (.iload_n 1, 1) := by decide +kernel
theorem dX4_ruesOf_72 : decode cX4_ruesOf 72 = .ok (.iaload, 1) := by decide +kernel
theorem dX4_ruesOf_73 : decode cX4_ruesOf 73 = .ok (.iadd, 1) := by decide +kernel
theorem dX4_ruesOf_74 : decode cX4_ruesOf 74 = .ok (.istore_n 3, 1) := by decide +kernel
theorem dX4_ruesOf_75 : decode cX4_ruesOf 75 = .ok (.goto 19, 3) := by decide +kernel
theorem dX4_ruesOf_78 : decode cX4_ruesOf 78 = .ok (.iconst 1, 1) := by decide +kernel
theorem dX4_ruesOf_79 : decode cX4_ruesOf 79 = .ok (.istore_n 3, 1) := by decide +kernel
theorem dX4_ruesOf_80 : decode cX4_ruesOf 80 = .ok (.goto 14, 3) := by decide +kernel
theorem dX4_ruesOf_83 : decode cX4_ruesOf 83 = .ok (.iload_n 2, 1) := by decide +kernel
theorem dX4_ruesOf_84 : decode cX4_ruesOf 84 = .ok (.iconst 5, 1) := by decide +kernel
theorem dX4_ruesOf_85 : decode cX4_ruesOf 85 = .ok (.invokestatic 59, 3) := by decide +kernel
theorem dX4_ruesOf_88 : decode cX4_ruesOf 88 = .ok (.istore_n 3, 1) := by decide +kernel
theorem dX4_ruesOf_89 : decode cX4_ruesOf 89 = .ok (.goto 5, 3) := by decide +kernel
theorem dX4_ruesOf_92 : decode cX4_ruesOf 92 = .ok (.iload_n 2, 1) := by decide +kernel
theorem dX4_ruesOf_93 : decode cX4_ruesOf 93 = .ok (.istore_n 3, 1) := by decide +kernel
theorem dX4_ruesOf_94 : decode cX4_ruesOf 94 = .ok (.iload_n 3, 1) := by decide +kernel
theorem dX4_ruesOf_95 : decode cX4_ruesOf 95 = .ok (.iconst 0, 1) := by decide +kernel
theorem dX4_ruesOf_96 : decode cX4_ruesOf 96 = .ok (.bipush 99, 2) := by decide +kernel
theorem dX4_ruesOf_98 : decode cX4_ruesOf 98 = .ok (.invokestatic 55, 3) := by decide +kernel
theorem dX4_ruesOf_101 : decode cX4_ruesOf 101 = .ok (.ireturn, 1) := by decide +kernel
theorem dX4_minutesOf_0 : decode cX4_minutesOf 0 = .ok (.aload_n 0, 1) := by decide +kernel
theorem dX4_minutesOf_1 : decode cX4_minutesOf 1 = .ok (.iload_n 1, 1) := by decide +kernel
theorem dX4_minutesOf_2 : decode cX4_minutesOf 2 = .ok (.invokevirtual 64, 3) := by decide +kernel
theorem dX4_minutesOf_5 : decode cX4_minutesOf 5 = .ok (.ifCond .eq 7, 3) := by decide +kernel
theorem dX4_minutesOf_8 : decode cX4_minutesOf 8 = .ok (.iconst 0, 1) := by decide +kernel
theorem dX4_minutesOf_9 : decode cX4_minutesOf 9 = .ok (.goto 8, 3) := by decide +kernel
theorem dX4_minutesOf_12 : decode cX4_minutesOf 12 = .ok (.aload_n 0, 1) := by decide +kernel
theorem dX4_minutesOf_13 : decode cX4_minutesOf 13 = .ok (.iload_n 1, 1) := by decide +kernel
theorem dX4_minutesOf_14 : decode cX4_minutesOf 14 = .ok (.invokevirtual 68, 3) := by decide +kernel
theorem dX4_minutesOf_17 : decode cX4_minutesOf 17 = .ok (.ireturn, 1) := by decide +kernel
theorem dX4_passDay_0 : decode cX4_passDay 0 = .ok (.iconst 0, 1) := by decide +kernel
theorem dX4_passDay_1 : decode cX4_passDay 1 = .ok (.istore_n 1, 1) := by decide +kernel
theorem dX4_passDay_2 : decode cX4_passDay 2 = .ok (.iload_n 1, 1) := by decide +kernel
theorem dX4_passDay_3 : decode cX4_passDay 3 = .ok (.aload_n 0, 1) := by decide +kernel
theorem dX4_passDay_4 : decode cX4_passDay 4 = .ok (.getfield 34, 3) := by decide +kernel
theorem dX4_passDay_7 : decode cX4_passDay 7 = .ok (.if_icmp .ge 20, 3) := by decide +kernel
theorem dX4_passDay_10 : decode cX4_passDay 10 = .ok (.aload_n 0, 1) := by decide +kernel
theorem dX4_passDay_11 : decode cX4_passDay 11 = .ok (.getfield 24, 3) := by decide +kernel
theorem dX4_passDay_14 : decode cX4_passDay 14 = .ok (.iload_n 1, 1) := by decide +kernel
theorem dX4_passDay_15 : decode cX4_passDay 15 = .ok (.aload_n 0, 1) := by decide +kernel
theorem dX4_passDay_16 : decode cX4_passDay 16 = .ok (.iload_n 1, 1) := by decide +kernel
theorem dX4_passDay_17 : decode cX4_passDay 17 = .ok (.invokevirtual 72, 3) := by decide +kernel
theorem dX4_passDay_20 : decode cX4_passDay 20 = .ok (.iastore, 1) := by decide +kernel
theorem dX4_passDay_21 : decode cX4_passDay 21 = .ok (.iinc 1 1, 3) := by decide +kernel
theorem dX4_passDay_24 : decode cX4_passDay 24 = .ok (.goto (-22), 3) := by decide +kernel
theorem dX4_passDay_27 : decode cX4_passDay 27 = .ok (.iconst 0, 1) := by decide +kernel
theorem dX4_passDay_28 : decode cX4_passDay 28 = .ok (.istore_n 1, 1) := by decide +kernel
theorem dX4_passDay_29 : decode cX4_passDay 29 = .ok (.iload_n 1, 1) := by decide +kernel
theorem dX4_passDay_30 : decode cX4_passDay 30 = .ok (.aload_n 0, 1) := by decide +kernel
theorem dX4_passDay_31 : decode cX4_passDay 31 = .ok (.getfield 34, 3) := by decide +kernel
theorem dX4_passDay_34 : decode cX4_passDay 34 = .ok (.if_icmp .ge 34, 3) := by decide +kernel
theorem dX4_passDay_37 : decode cX4_passDay 37 = .ok (.aload_n 0, 1) := by decide +kernel
theorem dX4_passDay_38 : decode cX4_passDay 38 = .ok (.getfield 18, 3) := by decide +kernel
theorem dX4_passDay_41 : decode cX4_passDay 41 = .ok (.iload_n 1, 1) := by decide +kernel
theorem dX4_passDay_42 : decode cX4_passDay 42 = .ok (.sipush 999, 3) := by decide +kernel
theorem dX4_passDay_45 : decode cX4_passDay 45 = .ok (.aload_n 0, 1) := by decide +kernel
theorem dX4_passDay_46 : decode cX4_passDay 46 = .ok (.getfield 18, 3) := by decide +kernel
theorem dX4_passDay_49 : decode cX4_passDay 49 = .ok (.iload_n 1, 1) := by decide +kernel
theorem dX4_passDay_50 : decode cX4_passDay 50 = .ok (.iaload, 1) := by decide +kernel
theorem dX4_passDay_51 : decode cX4_passDay 51 = .ok (.aload_n 0, 1) := by decide +kernel
theorem dX4_passDay_52 : decode cX4_passDay 52 = .ok (.getfield 24, 3) := by decide +kernel
theorem dX4_passDay_55 : decode cX4_passDay 55 = .ok (.iload_n 1, 1) := by decide +kernel
theorem dX4_passDay_56 : decode cX4_passDay 56 = .ok (.iaload, 1) := by decide +kernel
theorem dX4_passDay_57 : decode cX4_passDay 57 = .ok (.iadd, 1) := by decide +kernel
theorem dX4_passDay_58 : decode cX4_passDay 58 = .ok (.invokestatic 59, 3) := by decide +kernel
theorem dX4_passDay_61 : decode cX4_passDay 61 = .ok (.iastore, 1) := by decide +kernel
theorem dX4_passDay_62 : decode cX4_passDay 62 = .ok (.iinc 1 1, 3) := by decide +kernel
theorem dX4_passDay_65 : decode cX4_passDay 65 = .ok (.goto (-36), 3) := by decide +kernel
theorem dX4_passDay_68 : decode cX4_passDay 68 = .ok (.aload_n 0, 1) := by decide +kernel
theorem dX4_passDay_69 : decode cX4_passDay 69 = .ok (.dup, 1) := by decide +kernel
theorem dX4_passDay_70 : decode cX4_passDay 70 = .ok (.getfield 38, 3) := by decide +kernel
theorem dX4_passDay_73 : decode cX4_passDay 73 = .ok (.iconst 1, 1) := by decide +kernel
theorem dX4_passDay_74 : decode cX4_passDay 74 = .ok (.iadd, 1) := by decide +kernel
theorem dX4_passDay_75 : decode cX4_passDay 75 = .ok (.putfield 38, 3) := by decide +kernel
theorem dX4_passDay_78 : decode cX4_passDay 78 = .ok (.return_, 1) := by decide +kernel
theorem dX4_passDays_0 : decode cX4_passDays 0 = .ok (.iconst 0, 1) := by decide +kernel
theorem dX4_passDays_1 : decode cX4_passDays 1 = .ok (.istore_n 2, 1) := by decide +kernel
theorem dX4_passDays_2 : decode cX4_passDays 2 = .ok (.iload_n 2, 1) := by decide +kernel
theorem dX4_passDays_3 : decode cX4_passDays 3 = .ok (.iload_n 1, 1) := by decide +kernel
theorem dX4_passDays_4 : decode cX4_passDays 4 = .ok (.if_icmp .ge 13, 3) := by decide +kernel
theorem dX4_passDays_7 : decode cX4_passDays 7 = .ok (.aload_n 0, 1) := by decide +kernel
theorem dX4_passDays_8 : decode cX4_passDays 8 = .ok (.invokevirtual 75, 3) := by decide +kernel
theorem dX4_passDays_11 : decode cX4_passDays 11 = .ok (.iinc 2 1, 3) := by decide +kernel
theorem dX4_passDays_14 : decode cX4_passDays 14 = .ok (.goto (-12), 3) := by decide +kernel
theorem dX4_passDays_17 : decode cX4_passDays 17 = .ok (.return_, 1) := by decide +kernel
theorem dX4_drawOff_0 : decode cX4_drawOff 0 = .ok (.aload_n 0, 1) := by decide +kernel
theorem dX4_drawOff_1 : decode cX4_drawOff 1 = .ok (.getfield 18, 3) := by decide +kernel
theorem dX4_drawOff_4 : decode cX4_drawOff 4 = .ok (.iload_n 1, 1) := by decide +kernel
theorem dX4_drawOff_5 : decode cX4_drawOff 5 = .ok (.dup2, 1) := by decide +kernel
theorem dX4_drawOff_6 : decode cX4_drawOff 6 = .ok (.iaload, 1) := by decide +kernel
theorem dX4_drawOff_7 : decode cX4_drawOff 7 = .ok (.iload_n 3, 1) := by decide +kernel
theorem dX4_drawOff_8 : decode cX4_drawOff 8 = .ok (.isub, 1) := by decide +kernel
theorem dX4_drawOff_9 : decode cX4_drawOff 9 = .ok (.iastore, 1) := by decide +kernel
theorem dX4_drawOff_10 : decode cX4_drawOff 10 = .ok (.aload_n 0, 1) := by decide +kernel
theorem dX4_drawOff_11 : decode cX4_drawOff 11 = .ok (.getfield 18, 3) := by decide +kernel
theorem dX4_drawOff_14 : decode cX4_drawOff 14 = .ok (.iload_n 2, 1) := by decide +kernel
theorem dX4_drawOff_15 : decode cX4_drawOff 15 = .ok (.sipush 999, 3) := by decide +kernel
theorem dX4_drawOff_18 : decode cX4_drawOff 18 = .ok (.aload_n 0, 1) := by decide +kernel
theorem dX4_drawOff_19 : decode cX4_drawOff 19 = .ok (.getfield 18, 3) := by decide +kernel
theorem dX4_drawOff_22 : decode cX4_drawOff 22 = .ok (.iload_n 2, 1) := by decide +kernel
theorem dX4_drawOff_23 : decode cX4_drawOff 23 = .ok (.iaload, 1) := by decide +kernel
theorem dX4_drawOff_24 : decode cX4_drawOff 24 = .ok (.iload_n 3, 1) := by decide +kernel
theorem dX4_drawOff_25 : decode cX4_drawOff 25 = .ok (.iadd, 1) := by decide +kernel
theorem dX4_drawOff_26 : decode cX4_drawOff 26 = .ok (.invokestatic 59, 3) := by decide +kernel
theorem dX4_drawOff_29 : decode cX4_drawOff 29 = .ok (.iastore, 1) := by decide +kernel
theorem dX4_drawOff_30 : decode cX4_drawOff 30 = .ok (.aload_n 0, 1) := by decide +kernel
theorem dX4_drawOff_31 : decode cX4_drawOff 31 = .ok (.getfield 21, 3) := by decide +kernel
theorem dX4_drawOff_34 : decode cX4_drawOff 34 = .ok (.iload_n 2, 1) := by decide +kernel
theorem dX4_drawOff_35 : decode cX4_drawOff 35 = .ok (.sipush 999, 3) := by decide +kernel
theorem dX4_drawOff_38 : decode cX4_drawOff 38 = .ok (.aload_n 0, 1) := by decide +kernel
theorem dX4_drawOff_39 : decode cX4_drawOff 39 = .ok (.getfield 21, 3) := by decide +kernel
theorem dX4_drawOff_42 : decode cX4_drawOff 42 = .ok (.iload_n 2, 1) := by decide +kernel
theorem dX4_drawOff_43 : decode cX4_drawOff 43 = .ok (.iaload, 1) := by decide +kernel
theorem dX4_drawOff_44 : decode cX4_drawOff 44 = .ok (.iload_n 3, 1) := by decide +kernel
theorem dX4_drawOff_45 : decode cX4_drawOff 45 = .ok (.iadd, 1) := by decide +kernel
theorem dX4_drawOff_46 : decode cX4_drawOff 46 = .ok (.invokestatic 59, 3) := by decide +kernel
theorem dX4_drawOff_49 : decode cX4_drawOff 49 = .ok (.iastore, 1) := by decide +kernel
theorem dX4_drawOff_50 : decode cX4_drawOff 50 = .ok (.return_, 1) := by decide +kernel
theorem dX4_rueOfAll_0 : decode cX4_rueOfAll 0 = .ok (.iconst 0, 1) := by decide +kernel
theorem dX4_rueOfAll_1 : decode cX4_rueOfAll 1 = .ok (.istore_n 1, 1) := by decide +kernel
theorem dX4_rueOfAll_2 : decode cX4_rueOfAll 2 = .ok (.iconst 0, 1) := by decide +kernel
theorem dX4_rueOfAll_3 : decode cX4_rueOfAll 3 = .ok (.istore_n 2, 1) := by decide +kernel
theorem dX4_rueOfAll_4 : decode cX4_rueOfAll 4 = .ok (.iload_n 2, 1) := by decide +kernel
theorem dX4_rueOfAll_5 : decode cX4_rueOfAll 5 = .ok (.aload_n 0, 1) := by decide +kernel
theorem dX4_rueOfAll_6 : decode cX4_rueOfAll 6 = .ok (.getfield 34, 3) := by decide +kernel
theorem dX4_rueOfAll_9 : decode cX4_rueOfAll 9 = .ok (.if_icmp .ge 18, 3) := by decide +kernel
theorem dX4_rueOfAll_12 : decode cX4_rueOfAll 12 = .ok (.iload_n 1, 1) := by decide +kernel
theorem dX4_rueOfAll_13 : decode cX4_rueOfAll 13 = .ok (.aload_n 0, 1) := by decide +kernel
theorem dX4_rueOfAll_14 : decode cX4_rueOfAll 14 = .ok (.getfield 18, 3) := by decide +kernel
theorem dX4_rueOfAll_17 : decode cX4_rueOfAll 17 = .ok (.iload_n 2, 1) := by decide +kernel
theorem dX4_rueOfAll_18 : decode cX4_rueOfAll 18 = .ok (.iaload, 1) := by decide +kernel
theorem dX4_rueOfAll_19 : decode cX4_rueOfAll 19 = .ok (.iadd, 1) := by decide +kernel
theorem dX4_rueOfAll_20 : decode cX4_rueOfAll 20 = .ok (.istore_n 1, 1) := by decide +kernel
theorem dX4_rueOfAll_21 : decode cX4_rueOfAll 21 = .ok (.iinc 2 1, 3) := by decide +kernel
theorem dX4_rueOfAll_24 : decode cX4_rueOfAll 24 = .ok (.goto (-20), 3) := by decide +kernel
theorem dX4_rueOfAll_27 : decode cX4_rueOfAll 27 = .ok (.iload_n 1, 1) := by decide +kernel
theorem dX4_rueOfAll_28 : decode cX4_rueOfAll 28 = .ok (.ireturn, 1) := by decide +kernel
theorem dX4_mostRue_0 : decode cX4_mostRue 0 = .ok (.iconst 0, 1) := by decide +kernel
theorem dX4_mostRue_1 : decode cX4_mostRue 1 = .ok (.istore_n 1, 1) := by decide +kernel
theorem dX4_mostRue_2 : decode cX4_mostRue 2 = .ok (.iconst 0, 1) := by decide +kernel
theorem dX4_mostRue_3 : decode cX4_mostRue 3 = .ok (.istore_n 2, 1) := by decide +kernel
theorem dX4_mostRue_4 : decode cX4_mostRue 4 = .ok (.iload_n 2, 1) := by decide +kernel
theorem dX4_mostRue_5 : decode cX4_mostRue 5 = .ok (.aload_n 0, 1) := by decide +kernel
theorem dX4_mostRue_6 : decode cX4_mostRue 6 = .ok (.getfield 34, 3) := by decide +kernel
theorem dX4_mostRue_9 : decode cX4_mostRue 9 = .ok (.if_icmp .ge 20, 3) := by decide +kernel
theorem dX4_mostRue_12 : decode cX4_mostRue 12 = .ok (.iload_n 1, 1) := by decide +kernel
theorem dX4_mostRue_13 : decode cX4_mostRue 13 = .ok (.aload_n 0, 1) := by decide +kernel
theorem dX4_mostRue_14 : decode cX4_mostRue 14 = .ok (.getfield 18, 3) := by decide +kernel
theorem dX4_mostRue_17 : decode cX4_mostRue 17 = .ok (.iload_n 2, 1) := by decide +kernel
theorem dX4_mostRue_18 : decode cX4_mostRue 18 = .ok (.iaload, 1) := by decide +kernel
theorem dX4_mostRue_19 : decode cX4_mostRue 19 = .ok (.invokestatic 78, 3) := by decide +kernel
theorem dX4_mostRue_22 : decode cX4_mostRue 22 = .ok (.istore_n 1, 1) := by decide +kernel
theorem dX4_mostRue_23 : decode cX4_mostRue 23 = .ok (.iinc 2 1, 3) := by decide +kernel
theorem dX4_mostRue_26 : decode cX4_mostRue 26 = .ok (.goto (-22), 3) := by decide +kernel
theorem dX4_mostRue_29 : decode cX4_mostRue 29 = .ok (.iload_n 1, 1) := by decide +kernel
theorem dX4_mostRue_30 : decode cX4_mostRue 30 = .ok (.ireturn, 1) := by decide +kernel
theorem dX4_longest_0 : decode cX4_longest 0 = .ok (.iconst (-1), 1) := by decide +kernel
theorem dX4_longest_1 : decode cX4_longest 1 = .ok (.istore_n 1, 1) := by decide +kernel
theorem dX4_longest_2 : decode cX4_longest 2 = .ok (.iconst (-1), 1) := by decide +kernel
theorem dX4_longest_3 : decode cX4_longest 3 = .ok (.istore_n 2, 1) := by decide +kernel
theorem dX4_longest_4 : decode cX4_longest 4 = .ok (.iconst 0, 1) := by decide +kernel
theorem dX4_longest_5 : decode cX4_longest 5 = .ok (.istore_n 3, 1) := by decide +kernel
theorem dX4_longest_6 : decode cX4_longest 6 = .ok (.iload_n 3, 1) := by decide +kernel
theorem dX4_longest_7 : decode cX4_longest 7 = .ok (.aload_n 0, 1) := by decide +kernel
theorem dX4_longest_8 : decode cX4_longest 8 = .ok (.getfield 34, 3) := by decide +kernel
theorem dX4_longest_11 : decode cX4_longest 11 = .ok (.if_icmp .ge 27, 3) := by decide +kernel
theorem dX4_longest_14 : decode cX4_longest 14 = .ok (.aload_n 0, 1) := by decide +kernel
theorem dX4_longest_15 : decode cX4_longest 15 = .ok (.iload_n 3, 1) := by decide +kernel
theorem dX4_longest_16 : decode cX4_longest 16 = .ok (.invokevirtual 81, 3) := by decide +kernel
theorem dX4_longest_19 : decode cX4_longest 19 = .ok (.istore 4, 2) := by decide +kernel
theorem dX4_longest_21 : decode cX4_longest 21 = .ok (.iload 4, 2) := by decide +kernel
theorem dX4_longest_23 : decode cX4_longest 23 = .ok (.iload_n 2, 1) := by decide +kernel
theorem dX4_longest_24 : decode cX4_longest 24 = .ok (.if_icmp .le 8, 3) := by decide +kernel
theorem dX4_longest_27 : decode cX4_longest 27 = .ok (.iload_n 3, 1) := by decide +kernel
theorem dX4_longest_28 : decode cX4_longest 28 = .ok (.istore_n 1, 1) := by decide +kernel
theorem dX4_longest_29 : decode cX4_longest 29 = .ok (.iload 4, 2) := by decide +kernel
theorem dX4_longest_31 : decode cX4_longest 31 = .ok (.istore_n 2, 1) := by decide +kernel
theorem dX4_longest_32 : decode cX4_longest 32 = .ok (.iinc 3 1, 3) := by decide +kernel
theorem dX4_longest_35 : decode cX4_longest 35 = .ok (.goto (-29), 3) := by decide +kernel
theorem dX4_longest_38 : decode cX4_longest 38 = .ok (.iload_n 1, 1) := by decide +kernel
theorem dX4_longest_39 : decode cX4_longest 39 = .ok (.ireturn, 1) := by decide +kernel
theorem dX4_whoClog_0 : decode cX4_whoClog 0 = .ok (.iconst 0, 1) := by decide +kernel
theorem dX4_whoClog_1 : decode cX4_whoClog 1 = .ok (.istore_n 1, 1) := by decide +kernel
theorem dX4_whoClog_2 : decode cX4_whoClog 2 = .ok (.iconst 0, 1) := by decide +kernel
theorem dX4_whoClog_3 : decode cX4_whoClog 3 = .ok (.istore_n 2, 1) := by decide +kernel
theorem dX4_whoClog_4 : decode cX4_whoClog 4 = .ok (.iload_n 2, 1) := by decide +kernel
theorem dX4_whoClog_5 : decode cX4_whoClog 5 = .ok (.aload_n 0, 1) := by decide +kernel
theorem dX4_whoClog_6 : decode cX4_whoClog 6 = .ok (.getfield 34, 3) := by decide +kernel
theorem dX4_whoClog_9 : decode cX4_whoClog 9 = .ok (.if_icmp .ge 23, 3) := by decide +kernel
theorem dX4_whoClog_12 : decode cX4_whoClog 12 = .ok (.aload_n 0, 1) := by decide +kernel
theorem dX4_whoClog_13 : decode cX4_whoClog 13 = .ok (.iload_n 2, 1) := by decide +kernel
theorem dX4_whoClog_14 : decode cX4_whoClog 14 = .ok (.invokevirtual 64, 3) := by decide +kernel
theorem dX4_whoClog_17 : decode cX4_whoClog 17 = .ok (.ifCond .eq 9, 3) := by decide +kernel
theorem dX4_whoClog_20 : decode cX4_whoClog 20 = .ok (.iload_n 1, 1) := by decide +kernel
theorem dX4_whoClog_21 : decode cX4_whoClog 21 = .ok (.iconst 1, 1) := by decide +kernel
theorem dX4_whoClog_22 : decode cX4_whoClog 22 = .ok (.iload_n 2, 1) := by decide +kernel
theorem dX4_whoClog_23 : decode cX4_whoClog 23 = .ok (.ishl, 1) := by decide +kernel
theorem dX4_whoClog_24 : decode cX4_whoClog 24 = .ok (.ior, 1) := by decide +kernel
theorem dX4_whoClog_25 : decode cX4_whoClog 25 = .ok (.istore_n 1, 1) := by decide +kernel
theorem dX4_whoClog_26 : decode cX4_whoClog 26 = .ok (.iinc 2 1, 3) := by decide +kernel
theorem dX4_whoClog_29 : decode cX4_whoClog 29 = .ok (.goto (-25), 3) := by decide +kernel
theorem dX4_whoClog_32 : decode cX4_whoClog 32 = .ok (.iload_n 1, 1) := by decide +kernel
theorem dX4_whoClog_33 : decode cX4_whoClog 33 = .ok (.ireturn, 1) := by decide +kernel
theorem dX4_ruleTells_0 : decode cX4_ruleTells 0 = .ok (.aload_n 0, 1) := by decide +kernel
theorem dX4_ruleTells_1 : decode cX4_ruleTells 1 = .ok (.getfield 44, 3) := by decide +kernel
theorem dX4_ruleTells_4 : decode cX4_ruleTells 4 = .ok (.ifCond .lt 27, 3) := by decide +kernel
theorem dX4_ruleTells_7 : decode cX4_ruleTells 7 = .ok (.aload_n 0, 1) := by decide +kernel
theorem dX4_ruleTells_8 : decode cX4_ruleTells 8 = .ok (.getfield 44, 3) := by decide +kernel
theorem dX4_ruleTells_11 : decode cX4_ruleTells 11 = .ok (.aload_n 0, 1) := by decide +kernel
theorem dX4_ruleTells_12 : decode cX4_ruleTells 12 = .ok (.getfield 30, 3) := by decide +kernel
theorem dX4_ruleTells_15 : decode cX4_ruleTells 15 = .ok (.arraylength, 1) := by decide +kernel
theorem dX4_ruleTells_16 : decode cX4_ruleTells 16 = .ok (.if_icmp .ge 15, 3) := by decide +kernel
theorem dX4_ruleTells_19 : decode cX4_ruleTells 19 = .ok (.aload_n 0, 1) := by decide +kernel
theorem dX4_ruleTells_20 : decode cX4_ruleTells 20 = .ok (.getfield 30, 3) := by decide +kernel
theorem dX4_ruleTells_23 : decode cX4_ruleTells 23 = .ok (.aload_n 0, 1) := by decide +kernel
theorem dX4_ruleTells_24 : decode cX4_ruleTells 24 = .ok (.getfield 44, 3) := by decide +kernel
theorem dX4_ruleTells_27 : decode cX4_ruleTells 27 = .ok (.aaload, 1) := by decide +kernel
theorem dX4_ruleTells_28 : decode cX4_ruleTells 28 = .ok (.ifnonnull 5, 3) := by decide +kernel
theorem dX4_ruleTells_31 : decode cX4_ruleTells 31 = .ok (.iconst 0, 1) := by decide +kernel
theorem dX4_ruleTells_32 : decode cX4_ruleTells 32 = .ok (.ireturn, 1) := by decide +kernel
theorem dX4_ruleTells_33 : decode cX4_ruleTells 33 = .ok (.aload_n 0, 1) := by decide +kernel
theorem dX4_ruleTells_34 : decode cX4_ruleTells 34 = .ok (.getfield 27, 3) := by decide +kernel
theorem dX4_ruleTells_37 : decode cX4_ruleTells 37 = .ok (.iconst 0, 1) := by decide +kernel
theorem dX4_ruleTells_38 : decode cX4_ruleTells 38 = .ok (.aload_n 0, 1) := by decide +kernel
theorem dX4_ruleTells_39 : decode cX4_ruleTells 39 = .ok (.getfield 18, 3) := by decide +kernel
theorem dX4_ruleTells_42 : decode cX4_ruleTells 42 = .ok (.iload_n 2, 1) := by decide +kernel
theorem dX4_ruleTells_43 : decode cX4_ruleTells 43 = .ok (.iaload, 1) := by decide +kernel
theorem dX4_ruleTells_44 : decode cX4_ruleTells 44 = .ok (.iastore, 1) := by decide +kernel
theorem dX4_ruleTells_45 : decode cX4_ruleTells 45 = .ok (.aload_n 0, 1) := by decide +kernel
theorem dX4_ruleTells_46 : decode cX4_ruleTells 46 = .ok (.getfield 27, 3) := by decide +kernel
theorem dX4_ruleTells_49 : decode cX4_ruleTells 49 = .ok (.iconst 1, 1) := by decide +kernel
theorem dX4_ruleTells_50 : decode cX4_ruleTells 50 = .ok (.aload_n 0, 1) := by decide +kernel
theorem dX4_ruleTells_51 : decode cX4_ruleTells 51 = .ok (.getfield 15, 3) := by decide +kernel
theorem dX4_ruleTells_54 : decode cX4_ruleTells 54 = .ok (.iload_n 2, 1) := by decide +kernel
theorem dX4_ruleTells_55 : decode cX4_ruleTells 55 = .ok (.iaload, 1) := by decide +kernel
theorem dX4_ruleTells_56 : decode cX4_ruleTells 56 = .ok (.iastore, 1) := by decide +kernel
theorem dX4_ruleTells_57 : decode cX4_ruleTells 57 = .ok (.aload_n 0, 1) := by decide +kernel
theorem dX4_ruleTells_58 : decode cX4_ruleTells 58 = .ok (.getfield 27, 3) := by decide +kernel
theorem dX4_ruleTells_61 : decode cX4_ruleTells 61 = .ok (.iconst 2, 1) := by decide +kernel
theorem dX4_ruleTells_62 : decode cX4_ruleTells 62 = .ok (.aload_n 0, 1) := by decide +kernel
theorem dX4_ruleTells_63 : decode cX4_ruleTells 63 = .ok (.getfield 41, 3) := by decide +kernel
theorem dX4_ruleTells_66 : decode cX4_ruleTells 66 = .ok (.iastore, 1) := by decide +kernel
theorem dX4_ruleTells_67 : decode cX4_ruleTells 67 = .ok (.aload_n 0, 1) := by decide +kernel
theorem dX4_ruleTells_68 : decode cX4_ruleTells 68 = .ok (.getfield 27, 3) := by decide +kernel
theorem dX4_ruleTells_71 : decode cX4_ruleTells 71 = .ok (.iconst 3, 1) := by decide +kernel
theorem dX4_ruleTells_72 : decode cX4_ruleTells 72 = .ok (.aload_n 0, 1) := by decide +kernel
theorem dX4_ruleTells_73 : decode cX4_ruleTells 73 = .ok (.getfield 38, 3) := by decide +kernel
theorem dX4_ruleTells_76 : decode cX4_ruleTells 76 = .ok (.iastore, 1) := by decide +kernel
theorem dX4_ruleTells_77 : decode cX4_ruleTells 77 = .ok (.aload_n 0, 1) := by decide +kernel
theorem dX4_ruleTells_78 : decode cX4_ruleTells 78 = .ok (.getfield 27, 3) := by decide +kernel
theorem dX4_ruleTells_81 : decode cX4_ruleTells 81 = .ok (.iconst 4, 1) := by decide +kernel
theorem dX4_ruleTells_82 : decode cX4_ruleTells 82 = .ok (.aload_n 0, 1) := by decide +kernel
theorem dX4_ruleTells_83 : decode cX4_ruleTells 83 = .ok (.getfield 21, 3) := by decide +kernel
theorem dX4_ruleTells_86 : decode cX4_ruleTells 86 = .ok (.iload_n 2, 1) := by decide +kernel
theorem dX4_ruleTells_87 : decode cX4_ruleTells 87 = .ok (.iaload, 1) := by decide +kernel
theorem dX4_ruleTells_88 : decode cX4_ruleTells 88 = .ok (.iastore, 1) := by decide +kernel
theorem dX4_ruleTells_89 : decode cX4_ruleTells 89 = .ok (.aload_n 0, 1) := by decide +kernel
theorem dX4_ruleTells_90 : decode cX4_ruleTells 90 = .ok (.getfield 27, 3) := by decide +kernel
theorem dX4_ruleTells_93 : decode cX4_ruleTells 93 = .ok (.iconst 5, 1) := by decide +kernel
theorem dX4_ruleTells_94 : decode cX4_ruleTells 94 = .ok (.aload_n 0, 1) := by decide +kernel
theorem dX4_ruleTells_95 : decode cX4_ruleTells 95 = .ok (.invokevirtual 84, 3) := by decide +kernel
theorem dX4_ruleTells_98 : decode cX4_ruleTells 98 = .ok (.iastore, 1) := by decide +kernel
theorem dX4_ruleTells_99 : decode cX4_ruleTells 99 = .ok (.aload_n 0, 1) := by decide +kernel
theorem dX4_ruleTells_100 : decode cX4_ruleTells 100 = .ok (.getfield 30, 3) := by decide +kernel
theorem dX4_ruleTells_103 : decode cX4_ruleTells 103 = .ok (.aload_n 0, 1) := by decide +kernel
theorem dX4_ruleTells_104 : decode cX4_ruleTells 104 = .ok (.getfield 44, 3) := by decide +kernel
theorem dX4_ruleTells_107 : decode cX4_ruleTells 107 = .ok (.aaload, 1) := by decide +kernel
theorem dX4_ruleTells_108 : decode cX4_ruleTells 108 = .ok (.iload_n 1, 1) := by decide +kernel
theorem dX4_ruleTells_109 : decode cX4_ruleTells 109 = .ok (.aload_n 0, 1) := by decide +kernel
theorem dX4_ruleTells_110 : decode cX4_ruleTells 110 = .ok (.getfield 27, 3) := by decide +kernel
theorem dX4_ruleTells_113 : decode cX4_ruleTells 113 = .ok (.invokevirtual 88, 3) := by decide +kernel
theorem dX4_ruleTells_116 : decode cX4_ruleTells 116 = .ok (.ireturn, 1) := by decide +kernel
theorem dX5_init_0 : decode cX5_init 0 = .ok (.aload_n 0, 1) := by decide +kernel
theorem dX5_init_1 : decode cX5_init 1 = .ok (.invokespecial 1, 3) := by decide +kernel
theorem dX5_init_4 : decode cX5_init 4 = .ok (.aload_n 0, 1) := by decide +kernel
theorem dX5_init_5 : decode cX5_init 5 = .ok (.bipush 6, 2) := by decide +kernel
theorem dX5_init_7 : decode cX5_init 7 = .ok (.anewarray 9, 3) := by decide +kernel
theorem dX5_init_10 : decode cX5_init 10 = .ok (.putfield 11, 3) := by decide +kernel
theorem dX5_init_13 : decode cX5_init 13 = .ok (.aload_n 0, 1) := by decide +kernel
theorem dX5_init_14 : decode cX5_init 14 = .ok (.new 15, 3) := by decide +kernel
theorem dX5_init_17 : decode cX5_init 17 = .ok (.dup, 1) := by decide +kernel
theorem dX5_init_18 : decode cX5_init 18 = .ok (.invokespecial 17, 3) := by decide +kernel
theorem dX5_init_21 : decode cX5_init 21 = .ok (.putfield 18, 3) := by decide +kernel
theorem dX5_init_24 : decode cX5_init 24 = .ok (.aload_n 0, 1) := by decide +kernel
theorem dX5_init_25 : decode cX5_init 25 = .ok (.new 22, 3) := by decide +kernel
theorem dX5_init_28 : decode cX5_init 28 = .ok (.dup, 1) := by decide +kernel
theorem dX5_init_29 : decode cX5_init 29 = .ok (.invokespecial 24, 3) := by decide +kernel
theorem dX5_init_32 : decode cX5_init 32 = .ok (.putfield 25, 3) := by decide +kernel
theorem dX5_init_35 : decode cX5_init 35 = .ok (.aload_n 0, 1) := by decide +kernel
theorem dX5_init_36 : decode cX5_init 36 = .ok (.new 29, 3) := by decide +kernel
theorem dX5_init_39 : decode cX5_init 39 = .ok (.dup, 1) := by decide +kernel
theorem dX5_init_40 : decode cX5_init 40 = .ok (.aload_n 0, 1) := by decide +kernel
theorem dX5_init_41 : decode cX5_init 41 = .ok (.getfield 11, 3) := by decide +kernel
theorem dX5_init_44 : decode cX5_init 44 = .ok (.invokespecial 31, 3) := by decide +kernel
theorem dX5_init_47 : decode cX5_init 47 = .ok (.putfield 34, 3) := by decide +kernel
theorem dX5_init_50 : decode cX5_init 50 = .ok (.aload_n 0, 1) := by decide +kernel
theorem dX5_init_51 : decode cX5_init 51 = .ok (.new 29, 3) := by decide +kernel
theorem dX5_init_54 : decode cX5_init 54 = .ok (.dup, 1) := by decide +kernel
theorem dX5_init_55 : decode cX5_init 55 = .ok (.aload_n 0, 1) := by decide +kernel
theorem dX5_init_56 : decode cX5_init 56 = .ok (.getfield 11, 3) := by decide +kernel
theorem dX5_init_59 : decode cX5_init 59 = .ok (.invokespecial 31, 3) := by decide +kernel
theorem dX5_init_62 : decode cX5_init 62 = .ok (.putfield 38, 3) := by decide +kernel
theorem dX5_init_65 : decode cX5_init 65 = .ok (.aload_n 0, 1) := by decide +kernel
theorem dX5_init_66 : decode cX5_init 66 = .ok (.new 29, 3) := by decide +kernel
theorem dX5_init_69 : decode cX5_init 69 = .ok (.dup, 1) := by decide +kernel
theorem dX5_init_70 : decode cX5_init 70 = .ok (.aload_n 0, 1) := by decide +kernel
theorem dX5_init_71 : decode cX5_init 71 = .ok (.getfield 11, 3) := by decide +kernel
theorem dX5_init_74 : decode cX5_init 74 = .ok (.invokespecial 31, 3) := by decide +kernel
theorem dX5_init_77 : decode cX5_init 77 = .ok (.putfield 41, 3) := by decide +kernel
theorem dX5_init_80 : decode cX5_init 80 = .ok (.aload_n 0, 1) := by decide +kernel
theorem dX5_init_81 : decode cX5_init 81 = .ok (.iconst 4, 1) := by decide +kernel
theorem dX5_init_82 : decode cX5_init 82 = .ok (.anewarray 44, 3) := by decide +kernel
theorem dX5_init_85 : decode cX5_init 85 = .ok (.putfield 46, 3) := by decide +kernel
theorem dX5_init_88 : decode cX5_init 88 = .ok (.iconst 0, 1) := by decide +kernel
theorem dX5_init_89 : decode cX5_init 89 = .ok (.istore_n 1, 1) := by decide +kernel
theorem dX5_init_90 : decode cX5_init 90 = .ok (.iload_n 1, 1) := by decide +kernel
theorem dX5_init_91 : decode cX5_init 91 = .ok (.bipush 6, 2) := by decide +kernel
theorem dX5_init_93 : decode cX5_init 93 = .ok (.if_icmp .ge 22, 3) := by decide +kernel
theorem dX5_init_96 : decode cX5_init 96 = .ok (.aload_n 0, 1) := by decide +kernel
theorem dX5_init_97 : decode cX5_init 97 = .ok (.getfield 11, 3) := by decide +kernel
theorem dX5_init_100 : decode cX5_init 100 = .ok (.iload_n 1, 1) := by decide +kernel
theorem dX5_init_101 : decode cX5_init 101 = .ok (.new 9, 3) := by decide +kernel
theorem dX5_init_104 : decode cX5_init 104 = .ok (.dup, 1) := by decide +kernel
theorem dX5_init_105 : decode cX5_init 105 = .ok (.invokespecial 50, 3) := by decide +kernel
theorem dX5_init_108 : decode cX5_init 108 = .ok (.aastore, 1) := by decide +kernel
theorem dX5_init_109 : decode cX5_init 109 = .ok (.iinc 1 1, 3) := by decide +kernel
theorem dX5_init_112 : decode cX5_init 112 = .ok (.goto (-22), 3) := by decide +kernel
theorem dX5_init_115 : decode cX5_init 115 = .ok (.iconst 0, 1) := by decide +kernel
theorem dX5_init_116 : decode cX5_init 116 = .ok (.istore_n 1, 1) := by decide +kernel
theorem dX5_init_117 : decode cX5_init 117 = .ok (.iload_n 1, 1) := by decide +kernel
theorem dX5_init_118 : decode cX5_init 118 = .ok (.iconst 4, 1) := by decide +kernel
theorem dX5_init_119 : decode cX5_init 119 = .ok (.if_icmp .ge 22, 3) := by decide +kernel
theorem dX5_init_122 : decode cX5_init 122 = .ok (.aload_n 0, 1) := by decide +kernel
theorem dX5_init_123 : decode cX5_init 123 = .ok (.getfield 46, 3) := by decide +kernel
theorem dX5_init_126 : decode cX5_init 126 = .ok (.iload_n 1, 1) := by decide +kernel
theorem dX5_init_127 : decode cX5_init 127 = .ok (.new 44, 3) := by decide +kernel
theorem dX5_init_130 : decode cX5_init 130 = .ok (.dup, 1) := by decide +kernel
theorem dX5_init_131 : decode cX5_init 131 = .ok (.invokespecial 51, 3) := by decide +kernel
theorem dX5_init_134 : decode cX5_init 134 = .ok (.aastore, 1) := by decide +kernel
theorem dX5_init_135 : decode cX5_init 135 = .ok (.iinc 1 1, 3) := by decide +kernel
theorem dX5_init_138 : decode cX5_init 138 = .ok (.goto (-21), 3) := by decide +kernel
theorem dX5_init_141 : decode cX5_init 141 = .ok (.iconst 0, 1) := by decide +kernel
theorem dX5_init_142 : decode cX5_init 142 = .ok (.istore_n 1, 1) := by decide +kernel
theorem dX5_init_143 : decode cX5_init 143 = .ok (.iload_n 1, 1) := by decide +kernel
theorem dX5_init_144 : decode cX5_init 144 = .ok (.ldc 52, 2) := by decide +kernel
theorem dX5_init_146 : decode cX5_init 146 = .ok (.invokevirtual 54, 3) := by decide +kernel
theorem dX5_init_149 : decode cX5_init 149 = .ok (.if_icmp .ge 23, 3) := by decide +kernel
theorem dX5_init_152 : decode cX5_init 152 = .ok (.aload_n 0, 1) := by decide +kernel
theorem dX5_init_153 : decode cX5_init 153 = .ok (.getfield 18, 3) := by decide +kernel
theorem dX5_init_156 : decode cX5_init 156 = .ok (.ldc 52, 2) := by decide +kernel
theorem dX5_init_158 : decode cX5_init 158 = .ok (.iload_n 1, 1) := by decide +kernel
theorem dX5_init_159 : decode cX5_init 159 = .ok (.invokevirtual 60, 3) := by decide +kernel
theorem dX5_init_162 : decode cX5_init 162 = .ok (.invokevirtual 64, 3) := by decide +kernel
theorem dX5_init_165 : decode cX5_init 165 = .ok (.pop, 1) := by decide +kernel
theorem dX5_init_166 : decode cX5_init 166 = .ok (.iinc 1 1, 3) := by decide +kernel
theorem dX5_init_169 : decode cX5_init 169 = .ok (.goto (-26), 3) := by decide +kernel
theorem dX5_init_172 : decode cX5_init 172 = .ok (.aload_n 0, 1) := by decide +kernel
theorem dX5_init_173 : decode cX5_init 173 = .ok (.invokevirtual 68, 3) := by decide +kernel
theorem dX5_init_176 : decode cX5_init 176 = .ok (.pop, 1) := by decide +kernel
theorem dX5_init_177 : decode cX5_init 177 = .ok (.return_, 1) := by decide +kernel
theorem dX5_set_0 : decode cX5_set 0 = .ok (.aload_n 0, 1) := by decide +kernel
theorem dX5_set_1 : decode cX5_set 1 = .ok (.iload_n 1, 1) := by decide +kernel
theorem dX5_set_2 : decode cX5_set 2 = .ok (.iload_n 2, 1) := by decide +kernel
theorem dX5_set_3 : decode cX5_set 3 = .ok (.invokevirtual 71, 3) := by decide +kernel
theorem dX5_set_6 : decode cX5_set 6 = .ok (.istore 4, 2) := by decide +kernel
theorem dX5_set_8 : decode cX5_set 8 = .ok (.iload 4, 2) := by decide +kernel
theorem dX5_set_10 : decode cX5_set 10 = .ok (.bipush (-2), 2) := by decide +kernel
theorem dX5_set_12 : decode cX5_set 12 = .ok (.if_icmp .eq 15, 3) := by decide +kernel
theorem dX5_set_15 : decode cX5_set 15 = .ok (.iload_n 3, 1) := by decide +kernel
theorem dX5_set_16 : decode cX5_set 16 = .ok (.iconst 0, 1) := by decide +kernel
theorem dX5_set_17 : decode cX5_set 17 = .ok (.iload_n 1, 1) := by decide +kernel
theorem dX5_set_18 : decode cX5_set 18 = .ok (.invokestatic 75, 3) := by decide +kernel
theorem dX5_set_21 : decode cX5_set 21 = .ok (.invokestatic 78, 3) := by decide +kernel
theorem dX5_set_24 : decode cX5_set 24 = .ok (.ifCond .ne 6, 3) := by decide +kernel
theorem dX5_set_27 : decode cX5_set 27 = .ok (.bipush (-2), 2) := by decide +kernel
theorem dX5_set_29 : decode cX5_set 29 = .ok (.ireturn, 1) := by decide +kernel
theorem dX5_set_30 : decode cX5_set 30 = .ok (.iload_n 1, 1) := by decide +kernel
theorem dX5_set_31 : decode cX5_set 31 = .ok (.tableswitch 77 0 3 #[29, 40, 51, 64], 29) := by decide +kernel
theorem dX5_set_60 : decode cX5_set 60 = .ok (.aload_n 0, 1) := by decide +kernel
theorem dX5_set_61 : decode cX5_set 61 = .ok (.getfield 34, 3) := by decide +kernel
theorem dX5_set_64 : decode cX5_set 64 = .ok (.iload_n 3, 1) := by decide +kernel
theorem dX5_set_65 : decode cX5_set 65 = .ok (.putfield 82, 3) := by decide +kernel
theorem dX5_set_68 : decode cX5_set 68 = .ok (.goto 50, 3) := by decide +kernel
theorem dX5_set_71 : decode cX5_set 71 = .ok (.aload_n 0, 1) := by decide +kernel
theorem dX5_set_72 : decode cX5_set 72 = .ok (.getfield 34, 3) := by decide +kernel
theorem dX5_set_75 : decode cX5_set 75 = .ok (.iload_n 3, 1) := by decide +kernel
theorem dX5_set_76 : decode cX5_set 76 = .ok (.putfield 86, 3) := by decide +kernel
theorem dX5_set_79 : decode cX5_set 79 = .ok (.goto 39, 3) := by decide +kernel
theorem dX5_set_82 : decode cX5_set 82 = .ok (.aload_n 0, 1) := by decide +kernel
theorem dX5_set_83 : decode cX5_set 83 = .ok (.getfield 34, 3) := by decide +kernel
theorem dX5_set_86 : decode cX5_set 86 = .ok (.getfield 89, 3) := by decide +kernel
theorem dX5_set_89 : decode cX5_set 89 = .ok (.iload_n 2, 1) := by decide +kernel
theorem dX5_set_90 : decode cX5_set 90 = .ok (.iload_n 3, 1) := by decide +kernel
theorem dX5_set_91 : decode cX5_set 91 = .ok (.iastore, 1) := by decide +kernel
theorem dX5_set_92 : decode cX5_set 92 = .ok (.goto 26, 3) := by decide +kernel
theorem dX5_set_95 : decode cX5_set 95 = .ok (.aload_n 0, 1) := by decide +kernel
theorem dX5_set_96 : decode cX5_set 96 = .ok (.getfield 34, 3) := by decide +kernel
theorem dX5_set_99 : decode cX5_set 99 = .ok (.getfield 93, 3) := by decide +kernel
theorem dX5_set_102 : decode cX5_set 102 = .ok (.iload_n 2, 1) := by decide +kernel
theorem dX5_set_103 : decode cX5_set 103 = .ok (.iload_n 3, 1) := by decide +kernel
theorem dX5_set_104 : decode cX5_set 104 = .ok (.iastore, 1) := by decide +kernel
theorem dX5_set_105 : decode cX5_set 105 = .ok (.goto 13, 3) := by decide +kernel
theorem dX5_set_108 : decode cX5_set 108 = .ok (.aload_n 0, 1) := by decide +kernel
theorem dX5_set_109 : decode cX5_set 109 = .ok (.getfield 34, 3) := by decide +kernel
theorem dX5_set_112 : decode cX5_set 112 = .ok (.getfield 96, 3) := by decide +kernel
theorem dX5_set_115 : decode cX5_set 115 = .ok (.iload_n 2, 1) := by decide +kernel
theorem dX5_set_116 : decode cX5_set 116 = .ok (.iload_n 3, 1) := by decide +kernel
theorem dX5_set_117 : decode cX5_set 117 = .ok (.iastore, 1) := by decide +kernel
theorem dX5_set_118 : decode cX5_set 118 = .ok (.iload 4, 2) := by decide +kernel
theorem dX5_set_120 : decode cX5_set 120 = .ok (.ireturn, 1) := by decide +kernel
theorem dX5_person_0 : decode cX5_person 0 = .ok (.iload_n 1, 1) := by decide +kernel
theorem dX5_person_1 : decode cX5_person 1 = .ok (.iload_n 2, 1) := by decide +kernel
theorem dX5_person_2 : decode cX5_person 2 = .ok (.iload_n 3, 1) := by decide +kernel
theorem dX5_person_3 : decode cX5_person 3 = .ok (.invokestatic 99, 3) := by decide +kernel
theorem dX5_person_6 : decode cX5_person 6 = .ok (.ifCond .ne 6, 3) := by decide +kernel
theorem dX5_person_9 : decode cX5_person 9 = .ok (.bipush (-2), 2) := by decide +kernel
theorem dX5_person_11 : decode cX5_person 11 = .ok (.ireturn, 1) := by decide +kernel
theorem dX5_person_12 : decode cX5_person 12 = .ok (.aload_n 0, 1) := by decide +kernel
theorem dX5_person_13 : decode cX5_person 13 = .ok (.getfield 34, 3) := by decide +kernel
theorem dX5_person_16 : decode cX5_person 16 = .ok (.iload_n 1, 1) := by decide +kernel
theorem dX5_person_17 : decode cX5_person 17 = .ok (.iload_n 2, 1) := by decide +kernel
theorem dX5_person_18 : decode cX5_person 18 = .ok (.iload_n 3, 1) := by decide +kernel
theorem dX5_person_19 : decode cX5_person 19 = .ok (.invokevirtual 102, 3) := by decide +kernel
theorem dX5_person_22 : decode cX5_person 22 = .ok (.ireturn, 1) := by decide +kernel
theorem dX5_told_0 : decode cX5_told 0 = .ok (.iload_n 2, 1) := by decide +kernel
theorem dX5_told_1 : decode cX5_told 1 = .ok (.iconst 4, 1) := by decide +kernel
theorem dX5_told_2 : decode cX5_told 2 = .ok (.if_icmp .gt 10, 3) := by decide +kernel
theorem dX5_told_5 : decode cX5_told 5 = .ok (.aload_n 0, 1) := by decide +kernel
theorem dX5_told_6 : decode cX5_told 6 = .ok (.iload_n 2, 1) := by decide +kernel
theorem dX5_told_7 : decode cX5_told 7 = .ok (.iload_n 1, 1) := by decide +kernel
theorem dX5_told_8 : decode cX5_told 8 = .ok (.invokevirtual 71, 3) := by decide +kernel
theorem dX5_told_11 : decode cX5_told 11 = .ok (.ireturn, 1) := by decide +kernel
theorem dX5_told_12 : decode cX5_told 12 = .ok (.aload_n 0, 1) := by decide +kernel
theorem dX5_told_13 : decode cX5_told 13 = .ok (.getfield 34, 3) := by decide +kernel
theorem dX5_told_16 : decode cX5_told 16 = .ok (.iload_n 1, 1) := by decide +kernel
theorem dX5_told_17 : decode cX5_told 17 = .ok (.invokevirtual 106, 3) := by decide +kernel
theorem dX5_told_20 : decode cX5_told 20 = .ok (.ifCond .ne 6, 3) := by decide +kernel
theorem dX5_told_23 : decode cX5_told 23 = .ok (.bipush (-2), 2) := by decide +kernel
theorem dX5_told_25 : decode cX5_told 25 = .ok (.ireturn, 1) := by decide +kernel
theorem dX5_told_26 : decode cX5_told 26 = .ok (.iload_n 2, 1) := by decide +kernel
theorem dX5_told_27 : decode cX5_told 27 = .ok (.tableswitch 87 5 9 #[33, 43, 52, 69, 78], 33) := by decide +kernel
theorem dX5_told_60 : decode cX5_told 60 = .ok (.aload_n 0, 1) := by decide +kernel
theorem dX5_told_61 : decode cX5_told 61 = .ok (.getfield 34, 3) := by decide +kernel
theorem dX5_told_64 : decode cX5_told 64 = .ok (.getfield 110, 3) := by decide +kernel
theorem dX5_told_67 : decode cX5_told 67 = .ok (.iload_n 1, 1) := by decide +kernel
theorem dX5_told_68 : decode cX5_told 68 = .ok (.iaload, 1) := by decide +kernel
theorem dX5_told_69 : decode cX5_told 69 = .ok (.ireturn, 1) := by decide +kernel
theorem dX5_told_70 : decode cX5_told 70 = .ok (.aload_n 0, 1) := by decide +kernel
theorem dX5_told_71 : decode cX5_told 71 = .ok (.getfield 34, 3) := by decide +kernel
theorem dX5_told_74 : decode cX5_told 74 = .ok (.iload_n 1, 1) := by decide +kernel
theorem dX5_told_75 : decode cX5_told 75 = .ok (.invokevirtual 113, 3) := by decide +kernel
theorem dX5_told_78 : decode cX5_told 78 = .ok (.ireturn, 1) := by decide +kernel
theorem dX5_told_79 : decode cX5_told 79 = .ok (.aload_n 0, 1) := by decide +kernel
theorem dX5_told_80 : decode cX5_told 80 = .ok (.getfield 34, 3) := by decide +kernel
theorem dX5_told_83 : decode cX5_told 83 = .ok (.iload_n 1, 1) := by decide +kernel
theorem dX5_told_84 : decode cX5_told 84 = .ok (.invokevirtual 116, 3) := by decide +kernel
theorem dX5_told_87 : decode cX5_told 87 = .ok (.ifCond .eq 7, 3) := by decide +kernel
theorem dX5_told_90 : decode cX5_told 90 = .ok (.iconst 1, 1) := by decide +kernel
theorem dX5_told_91 : decode cX5_told 91 = .ok (.goto 4, 3) := by decide +kernel
theorem dX5_told_94 : decode cX5_told 94 = .ok (.iconst 0, 1) := by decide +kernel
theorem dX5_told_95 : decode cX5_told 95 = .ok (.ireturn, 1) := by decide +kernel
theorem dX5_told_96 : decode cX5_told 96 = .ok (.aload_n 0, 1) := by decide +kernel
theorem dX5_told_97 : decode cX5_told 97 = .ok (.getfield 34, 3) := by decide +kernel
theorem dX5_told_100 : decode cX5_told 100 = .ok (.iload_n 1, 1) := by decide +kernel
theorem dX5_told_101 : decode cX5_told 101 = .ok (.invokevirtual 119, 3) := by decide +kernel
theorem dX5_told_104 : decode cX5_told 104 = .ok (.ireturn, 1) := by decide +kernel
theorem dX5_told_105 : decode cX5_told 105 = .ok (.aload_n 0, 1) := by decide +kernel
theorem dX5_told_106 : decode cX5_told 106 = .ok (.getfield 34, 3) := by decide +kernel
theorem dX5_told_109 : decode cX5_told 109 = .ok (.iload_n 1, 1) := by decide +kernel
theorem dX5_told_110 : decode cX5_told 110 = .ok (.invokevirtual 122, 3) := by decide +kernel
theorem dX5_told_113 : decode cX5_told 113 = .ok (.ireturn, 1) := by decide +kernel
theorem dX5_told_114 : decode cX5_told 114 = .ok (.bipush (-2), 2) := by decide +kernel
theorem dX5_told_116 : decode cX5_told 116 = .ok (.ireturn, 1) := by decide +kernel
theorem dX5_held_0 : decode cX5_held 0 = .ok (.iload_n 1, 1) := by decide +kernel
theorem dX5_held_1 : decode cX5_held 1 = .ok (.tableswitch 129 0 4 #[35, 43, 51, 77, 103], 35) := by decide +kernel
theorem dX5_held_36 : decode cX5_held 36 = .ok (.aload_n 0, 1) := by decide +kernel
theorem dX5_held_37 : decode cX5_held 37 = .ok (.getfield 34, 3) := by decide +kernel
theorem dX5_held_40 : decode cX5_held 40 = .ok (.getfield 82, 3) := by decide +kernel
theorem dX5_held_43 : decode cX5_held 43 = .ok (.ireturn, 1) := by decide +kernel
theorem dX5_held_44 : decode cX5_held 44 = .ok (.aload_n 0, 1) := by decide +kernel
theorem dX5_held_45 : decode cX5_held 45 = .ok (.getfield 34, 3) := by decide +kernel
theorem dX5_held_48 : decode cX5_held 48 = .ok (.getfield 86, 3) := by decide +kernel
theorem dX5_held_51 : decode cX5_held 51 = .ok (.ireturn, 1) := by decide +kernel
theorem dX5_held_52 : decode cX5_held 52 = .ok (.aload_n 0, 1) := by decide +kernel
theorem dX5_held_53 : decode cX5_held 53 = .ok (.getfield 34, 3) := by decide +kernel
theorem dX5_held_56 : decode cX5_held 56 = .ok (.iload_n 2, 1) := by decide +kernel
theorem dX5_held_57 : decode cX5_held 57 = .ok (.invokevirtual 106, 3) := by decide +kernel
theorem dX5_held_60 : decode cX5_held 60 = .ok (.ifCond .eq 15, 3) := by decide +kernel
theorem dX5_held_63 : decode cX5_held 63 = .ok (.aload_n 0, 1) := by decide +kernel
theorem dX5_held_64 : decode cX5_held 64 = .ok (.getfield 34, 3) := by decide +kernel
theorem dX5_held_67 : decode cX5_held 67 = .ok (.getfield 89, 3) := by decide +kernel
theorem dX5_held_70 : decode cX5_held 70 = .ok (.iload_n 2, 1) := by decide +kernel
theorem dX5_held_71 : decode cX5_held 71 = .ok (.iaload, 1) := by decide +kernel
theorem dX5_held_72 : decode cX5_held 72 = .ok (.goto 5, 3) := by decide +kernel
theorem dX5_held_75 : decode cX5_held 75 = .ok (.bipush (-2), 2) := by decide +kernel
theorem dX5_held_77 : decode cX5_held 77 = .ok (.ireturn, 1) := by decide +kernel
theorem dX5_held_78 : decode cX5_held 78 = .ok (.aload_n 0, 1) := by decide +kernel
theorem dX5_held_79 : decode cX5_held 79 = .ok (.getfield 34, 3) := by decide +kernel
theorem dX5_held_82 : decode cX5_held 82 = .ok (.iload_n 2, 1) := by decide +kernel
theorem dX5_held_83 : decode cX5_held 83 = .ok (.invokevirtual 106, 3) := by decide +kernel
theorem dX5_held_86 : decode cX5_held 86 = .ok (.ifCond .eq 15, 3) := by decide +kernel
theorem dX5_held_89 : decode cX5_held 89 = .ok (.aload_n 0, 1) := by decide +kernel
theorem dX5_held_90 : decode cX5_held 90 = .ok (.getfield 34, 3) := by decide +kernel
theorem dX5_held_93 : decode cX5_held 93 = .ok (.getfield 93, 3) := by decide +kernel
theorem dX5_held_96 : decode cX5_held 96 = .ok (.iload_n 2, 1) := by decide +kernel
theorem dX5_held_97 : decode cX5_held 97 = .ok (.iaload, 1) := by decide +kernel
theorem dX5_held_98 : decode cX5_held 98 = .ok (.goto 5, 3) := by decide +kernel
theorem dX5_held_101 : decode cX5_held 101 = .ok (.bipush (-2), 2) := by decide +kernel
theorem dX5_held_103 : decode cX5_held 103 = .ok (.ireturn, 1) := by decide +kernel
theorem dX5_held_104 : decode cX5_held 104 = .ok (.aload_n 0, 1) := by decide +kernel
theorem dX5_held_105 : decode cX5_held 105 = .ok (.getfield 34, 3) := by decide +kernel
theorem dX5_held_108 : decode cX5_held 108 = .ok (.iload_n 2, 1) := by decide +kernel
theorem dX5_held_109 : decode cX5_held 109 = .ok (.invokevirtual 106, 3) := by decide +kernel
theorem dX5_held_112 : decode cX5_held 112 = .ok (.ifCond .eq 15, 3) := by decide +kernel
theorem dX5_held_115 : decode cX5_held 115 = .ok (.aload_n 0, 1) := by decide +kernel
theorem dX5_held_116 : decode cX5_held 116 = .ok (.getfield 34, 3) := by decide +kernel
theorem dX5_held_119 : decode cX5_held 119 = .ok (.getfield 96, 3) := by decide +kernel
theorem dX5_held_122 : decode cX5_held 122 = .ok (.iload_n 2, 1) := by decide +kernel
theorem dX5_held_123 : decode cX5_held 123 = .ok (.iaload, 1) := by decide +kernel
theorem dX5_held_124 : decode cX5_held 124 = .ok (.goto 5, 3) := by decide +kernel
theorem dX5_held_127 : decode cX5_held 127 = .ok (.bipush (-2), 2) := by decide +kernel
theorem dX5_held_129 : decode cX5_held 129 = .ok (.ireturn, 1) := by decide +kernel
theorem dX5_held_130 : decode cX5_held 130 = .ok (.bipush (-2), 2) := by decide +kernel
theorem dX5_held_132 : decode cX5_held 132 = .ok (.ireturn, 1) := by decide +kernel
theorem dX5_heldMost_0 : decode cX5_heldMost 0 = .ok (.iload_n 0, 1) := by decide +kernel
theorem dX5_heldMost_1 : decode cX5_heldMost 1 = .ok (.tableswitch 47 0 4 #[35, 47, 47, 39, 43], 35) := by decide +kernel
theorem dX5_heldMost_36 : decode cX5_heldMost 36 = .ok (.sipush 999, 3) := by decide +kernel
theorem dX5_heldMost_39 : decode cX5_heldMost 39 = .ok (.ireturn, 1) := by decide +kernel
theorem dX5_heldMost_40 : decode cX5_heldMost 40 = .ok (.sipush 999, 3) := by decide +kernel
theorem dX5_heldMost_43 : decode cX5_heldMost 43 = .ok (.ireturn, 1) := by decide +kernel
theorem dX5_heldMost_44 : decode cX5_heldMost 44 = .ok (.sipush 999, 3) := by decide +kernel
theorem dX5_heldMost_47 : decode cX5_heldMost 47 = .ok (.ireturn, 1) := by decide +kernel
theorem dX5_heldMost_48 : decode cX5_heldMost 48 = .ok (.bipush 9, 2) := by decide +kernel
theorem dX5_heldMost_50 : decode cX5_heldMost 50 = .ok (.ireturn, 1) := by decide +kernel
theorem dX5_feed_0 : decode cX5_feed 0 = .ok (.iload_n 1, 1) := by decide +kernel
theorem dX5_feed_1 : decode cX5_feed 1 = .ok (.iconst 0, 1) := by decide +kernel
theorem dX5_feed_2 : decode cX5_feed 2 = .ok (.sipush 255, 3) := by decide +kernel
theorem dX5_feed_5 : decode cX5_feed 5 = .ok (.invokestatic 78, 3) := by decide +kernel
theorem dX5_feed_8 : decode cX5_feed 8 = .ok (.ifCond .ne 6, 3) := by decide +kernel
theorem dX5_feed_11 : decode cX5_feed 11 = .ok (.bipush (-2), 2) := by decide +kernel
theorem dX5_feed_13 : decode cX5_feed 13 = .ok (.ireturn, 1) := by decide +kernel
theorem dX5_feed_14 : decode cX5_feed 14 = .ok (.aload_n 0, 1) := by decide +kernel
theorem dX5_feed_15 : decode cX5_feed 15 = .ok (.getfield 18, 3) := by decide +kernel
theorem dX5_feed_18 : decode cX5_feed 18 = .ok (.iload_n 1, 1) := by decide +kernel
theorem dX5_feed_19 : decode cX5_feed 19 = .ok (.invokevirtual 64, 3) := by decide +kernel
theorem dX5_feed_22 : decode cX5_feed 22 = .ok (.ireturn, 1) := by decide +kernel
theorem dX5_text_0 : decode cX5_text 0 = .ok (.aload_n 0, 1) := by decide +kernel
theorem dX5_text_1 : decode cX5_text 1 = .ok (.getfield 125, 3) := by decide +kernel
theorem dX5_text_4 : decode cX5_text 4 = .ok (.bipush 6, 2) := by decide +kernel
theorem dX5_text_6 : decode cX5_text 6 = .ok (.if_icmp .lt 6, 3) := by decide +kernel
theorem dX5_text_9 : decode cX5_text 9 = .ok (.bipush (-4), 2) := by decide +kernel
theorem dX5_text_11 : decode cX5_text 11 = .ok (.ireturn, 1) := by decide +kernel
theorem dX5_text_12 : decode cX5_text 12 = .ok (.aload_n 0, 1) := by decide +kernel
theorem dX5_text_13 : decode cX5_text 13 = .ok (.getfield 18, 3) := by decide +kernel
theorem dX5_text_16 : decode cX5_text 16 = .ok (.invokevirtual 128, 3) := by decide +kernel
theorem dX5_text_19 : decode cX5_text 19 = .ok (.istore_n 1, 1) := by decide +kernel
theorem dX5_text_20 : decode cX5_text 20 = .ok (.aload_n 0, 1) := by decide +kernel
theorem dX5_text_21 : decode cX5_text 21 = .ok (.getfield 18, 3) := by decide +kernel
theorem dX5_text_24 : decode cX5_text 24 = .ok (.iconst 0, 1) := by decide +kernel
theorem dX5_text_25 : decode cX5_text 25 = .ok (.putfield 131, 3) := by decide +kernel
theorem dX5_text_28 : decode cX5_text 28 = .ok (.iload_n 1, 1) := by decide +kernel
theorem dX5_text_29 : decode cX5_text 29 = .ok (.iconst (-1), 1) := by decide +kernel
theorem dX5_text_30 : decode cX5_text 30 = .ok (.if_icmp .eq 8, 3) := by decide +kernel
theorem dX5_text_33 : decode cX5_text 33 = .ok (.bipush (-100), 2) := by decide +kernel
theorem dX5_text_35 : decode cX5_text 35 = .ok (.iload_n 1, 1) := by decide +kernel
theorem dX5_text_36 : decode cX5_text 36 = .ok (.isub, 1) := by decide +kernel
theorem dX5_text_37 : decode cX5_text 37 = .ok (.ireturn, 1) := by decide +kernel
theorem dX5_text_38 : decode cX5_text 38 = .ok (.aload_n 0, 1) := by decide +kernel
theorem dX5_text_39 : decode cX5_text 39 = .ok (.getfield 11, 3) := by decide +kernel
theorem dX5_text_42 : decode cX5_text 42 = .ok (.aload_n 0, 1) := by decide +kernel
theorem dX5_text_43 : decode cX5_text 43 = .ok (.getfield 125, 3) := by decide +kernel
theorem dX5_text_46 : decode cX5_text 46 = .ok (.aaload, 1) := by decide +kernel
theorem dX5_text_47 : decode cX5_text 47 = .ok (.aload_n 0, 1) := by decide +kernel
theorem dX5_text_48 : decode cX5_text 48 = .ok (.getfield 18, 3) := by decide +kernel
theorem dX5_text_51 : decode cX5_text 51 = .ok (.invokevirtual 134, 3) := by decide +kernel
theorem dX5_text_54 : decode cX5_text 54 = .ok (.aload_n 0, 1) := by decide +kernel
theorem dX5_text_55 : decode cX5_text 55 = .ok (.dup, 1) := by decide +kernel
theorem dX5_text_56 : decode cX5_text 56 = .ok (.getfield 125, 3) := by decide +kernel
theorem dX5_text_59 : decode cX5_text 59 = .ok (.iconst 1, 1) := by decide +kernel
theorem dX5_text_60 : decode cX5_text 60 = .ok (.iadd, 1) := by decide +kernel
theorem dX5_text_61 : decode cX5_text 61 = .ok (.putfield 125, 3) := by decide +kernel
theorem dX5_text_64 : decode cX5_text 64 = .ok (.aload_n 0, 1) := by decide +kernel
theorem dX5_text_65 : decode cX5_text 65 = .ok (.getfield 125, 3) := by decide +kernel
theorem dX5_text_68 : decode cX5_text 68 = .ok (.iconst 1, 1) := by decide +kernel
theorem dX5_text_69 : decode cX5_text 69 = .ok (.isub, 1) := by decide +kernel
theorem dX5_text_70 : decode cX5_text 70 = .ok (.ireturn, 1) := by decide +kernel
theorem dX5_force_0 : decode cX5_force 0 = .ok (.iload_n 1, 1) := by decide +kernel
theorem dX5_force_1 : decode cX5_force 1 = .ok (.iconst 0, 1) := by decide +kernel
theorem dX5_force_2 : decode cX5_force 2 = .ok (.aload_n 0, 1) := by decide +kernel
theorem dX5_force_3 : decode cX5_force 3 = .ok (.getfield 125, 3) := by decide +kernel
theorem dX5_force_6 : decode cX5_force 6 = .ok (.iconst 1, 1) := by decide +kernel
theorem dX5_force_7 : decode cX5_force 7 = .ok (.isub, 1) := by decide +kernel
theorem dX5_force_8 : decode cX5_force 8 = .ok (.invokestatic 78, 3) := by decide +kernel
theorem dX5_force_11 : decode cX5_force 11 = .ok (.ifCond .ne 6, 3) := by decide +kernel
theorem dX5_force_14 : decode cX5_force 14 = .ok (.bipush (-2), 2) := by decide +kernel
theorem dX5_force_16 : decode cX5_force 16 = .ok (.ireturn, 1) := by decide +kernel
theorem dX5_force_17 : decode cX5_force 17 = .ok (.aload_n 0, 1) := by decide +kernel
theorem dX5_force_18 : decode cX5_force 18 = .ok (.getfield 34, 3) := by decide +kernel
theorem dX5_force_21 : decode cX5_force 21 = .ok (.getfield 138, 3) := by decide +kernel
theorem dX5_force_24 : decode cX5_force 24 = .ok (.istore_n 2, 1) := by decide +kernel
theorem dX5_force_25 : decode cX5_force 25 = .ok (.aload_n 0, 1) := by decide +kernel
theorem dX5_force_26 : decode cX5_force 26 = .ok (.getfield 34, 3) := by decide +kernel
theorem dX5_force_29 : decode cX5_force 29 = .ok (.iload_n 1, 1) := by decide +kernel
theorem dX5_force_30 : decode cX5_force 30 = .ok (.putfield 138, 3) := by decide +kernel
theorem dX5_force_33 : decode cX5_force 33 = .ok (.iload_n 2, 1) := by decide +kernel
theorem dX5_force_34 : decode cX5_force 34 = .ok (.ireturn, 1) := by decide +kernel
theorem dX5_day_0 : decode cX5_day 0 = .ok (.aload_n 0, 1) := by decide +kernel
theorem dX5_day_1 : decode cX5_day 1 = .ok (.getfield 34, 3) := by decide +kernel
theorem dX5_day_4 : decode cX5_day 4 = .ok (.getfield 82, 3) := by decide +kernel
theorem dX5_day_7 : decode cX5_day 7 = .ok (.sipush 999, 3) := by decide +kernel
theorem dX5_day_10 : decode cX5_day 10 = .ok (.if_icmp .lt 6, 3) := by decide +kernel
theorem dX5_day_13 : decode cX5_day 13 = .ok (.bipush (-3), 2) := by decide +kernel
theorem dX5_day_15 : decode cX5_day 15 = .ok (.ireturn, 1) := by decide +kernel
theorem dX5_day_16 : decode cX5_day 16 = .ok (.aload_n 0, 1) := by decide +kernel
theorem dX5_day_17 : decode cX5_day 17 = .ok (.getfield 34, 3) := by decide +kernel
theorem dX5_day_20 : decode cX5_day 20 = .ok (.invokevirtual 141, 3) := by decide +kernel
theorem dX5_day_23 : decode cX5_day 23 = .ok (.aload_n 0, 1) := by decide +kernel
theorem dX5_day_24 : decode cX5_day 24 = .ok (.getfield 34, 3) := by decide +kernel
theorem dX5_day_27 : decode cX5_day 27 = .ok (.invokevirtual 144, 3) := by decide +kernel
theorem dX5_day_30 : decode cX5_day 30 = .ok (.ireturn, 1) := by decide +kernel
theorem dX5_draw_0 : decode cX5_draw 0 = .ok (.aload_n 0, 1) := by decide +kernel
theorem dX5_draw_1 : decode cX5_draw 1 = .ok (.getfield 34, 3) := by decide +kernel
theorem dX5_draw_4 : decode cX5_draw 4 = .ok (.iload_n 1, 1) := by decide +kernel
theorem dX5_draw_5 : decode cX5_draw 5 = .ok (.invokevirtual 106, 3) := by decide +kernel
theorem dX5_draw_8 : decode cX5_draw 8 = .ok (.ifCond .eq 30, 3) := by decide +kernel
theorem dX5_draw_11 : decode cX5_draw 11 = .ok (.aload_n 0, 1) := by decide +kernel
theorem dX5_draw_12 : decode cX5_draw 12 = .ok (.getfield 34, 3) := by decide +kernel
theorem dX5_draw_15 : decode cX5_draw 15 = .ok (.iload_n 2, 1) := by decide +kernel
theorem dX5_draw_16 : decode cX5_draw 16 = .ok (.invokevirtual 106, 3) := by decide +kernel
theorem dX5_draw_19 : decode cX5_draw 19 = .ok (.ifCond .eq 19, 3) := by decide +kernel
theorem dX5_draw_22 : decode cX5_draw 22 = .ok (.iload_n 1, 1) := by decide +kernel
theorem dX5_draw_23 : decode cX5_draw 23 = .ok (.iload_n 2, 1) := by decide +kernel
theorem dX5_draw_24 : decode cX5_draw 24 = .ok (.if_icmp .eq 14, 3) := by decide +kernel
theorem dX5_draw_27 : decode cX5_draw 27 = .ok (.iload_n 3, 1) := by decide +kernel
theorem dX5_draw_28 : decode cX5_draw 28 = .ok (.iconst 0, 1) := by decide +kernel
theorem dX5_draw_29 : decode cX5_draw 29 = .ok (.sipush 999, 3) := by decide +kernel
theorem dX5_draw_32 : decode cX5_draw 32 = .ok (.invokestatic 78, 3) := by decide +kernel
theorem dX5_draw_35 : decode cX5_draw 35 = .ok (.ifCond .ne 6, 3) := by decide +kernel
theorem dX5_draw_38 : decode cX5_draw 38 = .ok (.bipush (-2), 2) := by decide +kernel
theorem dX5_draw_40 : decode cX5_draw 40 = .ok (.ireturn, 1) := by decide +kernel
theorem dX5_draw_41 : decode cX5_draw 41 = .ok (.aload_n 0, 1) := by decide +kernel
theorem dX5_draw_42 : decode cX5_draw 42 = .ok (.getfield 34, 3) := by decide +kernel
theorem dX5_draw_45 : decode cX5_draw 45 = .ok (.getfield 93, 3) := by decide +kernel
theorem dX5_draw_48 : decode cX5_draw 48 = .ok (.iload_n 1, 1) := by decide +kernel
theorem dX5_draw_49 : decode cX5_draw 49 = .ok (.iaload, 1) := by decide +kernel
theorem dX5_draw_50 : decode cX5_draw 50 = .ok (.iload_n 3, 1) := by decide +kernel
theorem dX5_draw_51 : decode cX5_draw 51 = .ok (.if_icmp .ge 6, 3) := by decide +kernel
theorem dX5_draw_54 : decode cX5_draw 54 = .ok (.bipush (-3), 2) := by decide +kernel
theorem dX5_draw_56 : decode cX5_draw 56 = .ok (.ireturn, 1) := by decide +kernel
theorem dX5_draw_57 : decode cX5_draw 57 = .ok (.aload_n 0, 1) := by decide +kernel
theorem dX5_draw_58 : decode cX5_draw 58 = .ok (.getfield 34, 3) := by decide +kernel
theorem dX5_draw_61 : decode cX5_draw 61 = .ok (.iload_n 1, 1) := by decide +kernel
theorem dX5_draw_62 : decode cX5_draw 62 = .ok (.iload_n 2, 1) := by decide +kernel
theorem dX5_draw_63 : decode cX5_draw 63 = .ok (.iload_n 3, 1) := by decide +kernel
theorem dX5_draw_64 : decode cX5_draw 64 = .ok (.invokevirtual 147, 3) := by decide +kernel
theorem dX5_draw_67 : decode cX5_draw 67 = .ok (.aload_n 0, 1) := by decide +kernel
theorem dX5_draw_68 : decode cX5_draw 68 = .ok (.getfield 34, 3) := by decide +kernel
theorem dX5_draw_71 : decode cX5_draw 71 = .ok (.getfield 93, 3) := by decide +kernel
theorem dX5_draw_74 : decode cX5_draw 74 = .ok (.iload_n 1, 1) := by decide +kernel
theorem dX5_draw_75 : decode cX5_draw 75 = .ok (.iaload, 1) := by decide +kernel
theorem dX5_draw_76 : decode cX5_draw 76 = .ok (.ireturn, 1) := by decide +kernel
theorem dX5_run_0 : decode cX5_run 0 = .ok (.aload_n 0, 1) := by decide +kernel
theorem dX5_run_1 : decode cX5_run 1 = .ok (.getfield 34, 3) := by decide +kernel
theorem dX5_run_4 : decode cX5_run 4 = .ok (.iload_n 1, 1) := by decide +kernel
theorem dX5_run_5 : decode cX5_run 5 = .ok (.invokevirtual 106, 3) := by decide +kernel
theorem dX5_run_8 : decode cX5_run 8 = .ok (.ifCond .eq 22, 3) := by decide +kernel
theorem dX5_run_11 : decode cX5_run 11 = .ok (.iload_n 2, 1) := by decide +kernel
theorem dX5_run_12 : decode cX5_run 12 = .ok (.iconst 0, 1) := by decide +kernel
theorem dX5_run_13 : decode cX5_run 13 = .ok (.bipush 40, 2) := by decide +kernel
theorem dX5_run_15 : decode cX5_run 15 = .ok (.invokestatic 78, 3) := by decide +kernel
theorem dX5_run_18 : decode cX5_run 18 = .ok (.ifCond .eq 12, 3) := by decide +kernel
theorem dX5_run_21 : decode cX5_run 21 = .ok (.iload_n 3, 1) := by decide +kernel
theorem dX5_run_22 : decode cX5_run 22 = .ok (.iconst 0, 1) := by decide +kernel
theorem dX5_run_23 : decode cX5_run 23 = .ok (.iconst 2, 1) := by decide +kernel
theorem dX5_run_24 : decode cX5_run 24 = .ok (.invokestatic 78, 3) := by decide +kernel
theorem dX5_run_27 : decode cX5_run 27 = .ok (.ifCond .ne 6, 3) := by decide +kernel
theorem dX5_run_30 : decode cX5_run 30 = .ok (.bipush (-2), 2) := by decide +kernel
theorem dX5_run_32 : decode cX5_run 32 = .ok (.ireturn, 1) := by decide +kernel
theorem dX5_run_33 : decode cX5_run 33 = .ok (.aload_n 0, 1) := by decide +kernel
theorem dX5_run_34 : decode cX5_run 34 = .ok (.getfield 38, 3) := by decide +kernel
theorem dX5_run_37 : decode cX5_run 37 = .ok (.aload_n 0, 1) := by decide +kernel
theorem dX5_run_38 : decode cX5_run 38 = .ok (.getfield 34, 3) := by decide +kernel
theorem dX5_run_41 : decode cX5_run 41 = .ok (.invokevirtual 151, 3) := by decide +kernel
theorem dX5_run_44 : decode cX5_run 44 = .ok (.aload_n 0, 1) := by decide +kernel
theorem dX5_run_45 : decode cX5_run 45 = .ok (.getfield 38, 3) := by decide +kernel
theorem dX5_run_48 : decode cX5_run 48 = .ok (.iload_n 2, 1) := by decide +kernel
theorem dX5_run_49 : decode cX5_run 49 = .ok (.invokevirtual 154, 3) := by decide +kernel
theorem dX5_run_52 : decode cX5_run 52 = .ok (.iload_n 3, 1) := by decide +kernel
theorem dX5_run_53 : decode cX5_run 53 = .ok (.lookupswitch 46 #[(0, 27), (1, 37)], 27) := by decide +kernel
theorem dX5_run_80 : decode cX5_run 80 = .ok (.aload_n 0, 1) := by decide +kernel
theorem dX5_run_81 : decode cX5_run 81 = .ok (.getfield 38, 3) := by decide +kernel
theorem dX5_run_84 : decode cX5_run 84 = .ok (.getfield 93, 3) := by decide +kernel
theorem dX5_run_87 : decode cX5_run 87 = .ok (.iload_n 1, 1) := by decide +kernel
theorem dX5_run_88 : decode cX5_run 88 = .ok (.iaload, 1) := by decide +kernel
theorem dX5_run_89 : decode cX5_run 89 = .ok (.ireturn, 1) := by decide +kernel
theorem dX5_run_90 : decode cX5_run 90 = .ok (.aload_n 0, 1) := by decide +kernel
theorem dX5_run_91 : decode cX5_run 91 = .ok (.getfield 38, 3) := by decide +kernel
theorem dX5_run_94 : decode cX5_run 94 = .ok (.iload_n 1, 1) := by decide +kernel
theorem dX5_run_95 : decode cX5_run 95 = .ok (.invokevirtual 122, 3) := by decide +kernel
theorem dX5_run_98 : decode cX5_run 98 = .ok (.ireturn, 1) := by decide +kernel
theorem dX5_run_99 : decode cX5_run 99 = .ok (.aload_n 0, 1) := by decide +kernel
theorem dX5_run_100 : decode cX5_run 100 = .ok (.getfield 38, 3) := by decide +kernel
theorem dX5_run_103 : decode cX5_run 103 = .ok (.invokevirtual 144, 3) := by decide +kernel
theorem dX5_run_106 : decode cX5_run 106 = .ok (.ireturn, 1) := by decide +kernel
theorem dX5_all_0 : decode cX5_all 0 = .ok (.iload_n 1, 1) := by decide +kernel
theorem dX5_all_1 : decode cX5_all 1 = .ok (.tableswitch 85 0 3 #[31, 39, 69, 77], 31) := by decide +kernel
theorem dX5_all_32 : decode cX5_all 32 = .ok (.aload_n 0, 1) := by decide +kernel
theorem dX5_all_33 : decode cX5_all 33 = .ok (.getfield 34, 3) := by decide +kernel
theorem dX5_all_36 : decode cX5_all 36 = .ok (.invokevirtual 158, 3) := by decide +kernel
theorem dX5_all_39 : decode cX5_all 39 = .ok (.ireturn, 1) := by decide +kernel
theorem dX5_all_40 : decode cX5_all 40 = .ok (.aload_n 0, 1) := by decide +kernel
theorem dX5_all_41 : decode cX5_all 41 = .ok (.getfield 34, 3) := by decide +kernel
theorem dX5_all_44 : decode cX5_all 44 = .ok (.invokevirtual 158, 3) := by decide +kernel
theorem dX5_all_47 : decode cX5_all 47 = .ok (.iconst (-1), 1) := by decide +kernel
theorem dX5_all_48 : decode cX5_all 48 = .ok (.if_icmp .ne 7, 3) := by decide +kernel
theorem dX5_all_51 : decode cX5_all 51 = .ok (.iconst 0, 1) := by decide +kernel
theorem dX5_all_52 : decode cX5_all 52 = .ok (.goto 17, 3) := by decide +kernel
theorem dX5_all_55 : decode cX5_all 55 = .ok (.aload_n 0, 1) := by decide +kernel
theorem dX5_all_56 : decode cX5_all 56 = .ok (.getfield 34, 3) := by decide +kernel
theorem dX5_all_59 : decode cX5_all 59 = .ok (.aload_n 0, 1) := by decide +kernel
theorem dX5_all_60 : decode cX5_all 60 = .ok (.getfield 34, 3) := by decide +kernel
theorem dX5_all_63 : decode cX5_all 63 = .ok (.invokevirtual 158, 3) := by decide +kernel
theorem dX5_all_66 : decode cX5_all 66 = .ok (.invokevirtual 122, 3) := by decide +kernel
theorem dX5_all_69 : decode cX5_all 69 = .ok (.ireturn, 1) := by decide +kernel
theorem dX5_all_70 : decode cX5_all 70 = .ok (.aload_n 0, 1) := by decide +kernel
theorem dX5_all_71 : decode cX5_all 71 = .ok (.getfield 34, 3) := by decide +kernel
theorem dX5_all_74 : decode cX5_all 74 = .ok (.invokevirtual 161, 3) := by decide +kernel
theorem dX5_all_77 : decode cX5_all 77 = .ok (.ireturn, 1) := by decide +kernel
theorem dX5_all_78 : decode cX5_all 78 = .ok (.aload_n 0, 1) := by decide +kernel
theorem dX5_all_79 : decode cX5_all 79 = .ok (.getfield 34, 3) := by decide +kernel
theorem dX5_all_82 : decode cX5_all 82 = .ok (.invokevirtual 164, 3) := by decide +kernel
theorem dX5_all_85 : decode cX5_all 85 = .ok (.ireturn, 1) := by decide +kernel
theorem dX5_all_86 : decode cX5_all 86 = .ok (.bipush (-2), 2) := by decide +kernel
theorem dX5_all_88 : decode cX5_all 88 = .ok (.ireturn, 1) := by decide +kernel
theorem dX5_times_0 : decode cX5_times 0 = .ok (.aload_n 0, 1) := by decide +kernel
theorem dX5_times_1 : decode cX5_times 1 = .ok (.iload_n 1, 1) := by decide +kernel
theorem dX5_times_2 : decode cX5_times 2 = .ok (.invokevirtual 167, 3) := by decide +kernel
theorem dX5_times_5 : decode cX5_times 5 = .ok (.ifCond .ne 7, 3) := by decide +kernel
theorem dX5_times_8 : decode cX5_times 8 = .ok (.ldc2_w 170, 3) := by decide +kernel
theorem dX5_times_11 : decode cX5_times 11 = .ok (.lreturn, 1) := by decide +kernel
theorem dX5_times_12 : decode cX5_times 12 = .ok (.aload_n 0, 1) := by decide +kernel
theorem dX5_times_13 : decode cX5_times 13 = .ok (.aload_n 0, 1) := by decide +kernel
theorem dX5_times_14 : decode cX5_times 14 = .ok (.getfield 34, 3) := by decide +kernel
theorem dX5_times_17 : decode cX5_times 17 = .ok (.iload_n 1, 1) := by decide +kernel
theorem dX5_times_18 : decode cX5_times 18 = .ok (.invokevirtual 172, 3) := by decide +kernel
theorem dX5_times_21 : decode cX5_times 21 = .ok (.i2l, 1) := by decide +kernel
theorem dX5_times_22 : decode cX5_times 22 = .ok (.lreturn, 1) := by decide +kernel
theorem dX5_fewest_0 : decode cX5_fewest 0 = .ok (.aload_n 0, 1) := by decide +kernel
theorem dX5_fewest_1 : decode cX5_fewest 1 = .ok (.iload_n 1, 1) := by decide +kernel
theorem dX5_fewest_2 : decode cX5_fewest 2 = .ok (.invokevirtual 167, 3) := by decide +kernel
theorem dX5_fewest_5 : decode cX5_fewest 5 = .ok (.ifCond .eq 19, 3) := by decide +kernel
theorem dX5_fewest_8 : decode cX5_fewest 8 = .ok (.iload_n 2, 1) := by decide +kernel
theorem dX5_fewest_9 : decode cX5_fewest 9 = .ok (.invokestatic 176, 3) := by decide +kernel
theorem dX5_fewest_12 : decode cX5_fewest 12 = .ok (.ifCond .eq 12, 3) := by decide +kernel
theorem dX5_fewest_15 : decode cX5_fewest 15 = .ok (.iload_n 3, 1) := by decide +kernel
theorem dX5_fewest_16 : decode cX5_fewest 16 = .ok (.iconst 0, 1) := by decide +kernel
theorem dX5_fewest_17 : decode cX5_fewest 17 = .ok (.iconst 2, 1) := by decide +kernel
theorem dX5_fewest_18 : decode cX5_fewest 18 = .ok (.invokestatic 78, 3) := by decide +kernel
theorem dX5_fewest_21 : decode cX5_fewest 21 = .ok (.ifCond .ne 6, 3) := by decide +kernel
theorem dX5_fewest_24 : decode cX5_fewest 24 = .ok (.bipush (-2), 2) := by decide +kernel
theorem dX5_fewest_26 : decode cX5_fewest 26 = .ok (.ireturn, 1) := by decide +kernel
theorem dX5_fewest_27 : decode cX5_fewest 27 = .ok (.iload_n 3, 1) := by decide +kernel
theorem dX5_fewest_28 : decode cX5_fewest 28 = .ok (.iconst 2, 1) := by decide +kernel
theorem dX5_fewest_29 : decode cX5_fewest 29 = .ok (.if_icmp .ne 17, 3) := by decide +kernel
theorem dX5_fewest_32 : decode cX5_fewest 32 = .ok (.aload_n 0, 1) := by decide +kernel
theorem dX5_fewest_33 : decode cX5_fewest 33 = .ok (.aload_n 0, 1) := by decide +kernel
theorem dX5_fewest_34 : decode cX5_fewest 34 = .ok (.getfield 34, 3) := by decide +kernel
theorem dX5_fewest_37 : decode cX5_fewest 37 = .ok (.iload_n 1, 1) := by decide +kernel
theorem dX5_fewest_38 : decode cX5_fewest 38 = .ok (.invokevirtual 172, 3) := by decide +kernel
theorem dX5_fewest_41 : decode cX5_fewest 41 = .ok (.iload_n 2, 1) := by decide +kernel
theorem dX5_fewest_42 : decode cX5_fewest 42 = .ok (.invokestatic 179, 3) := by decide +kernel
theorem dX5_fewest_45 : decode cX5_fewest 45 = .ok (.ireturn, 1) := by decide +kernel
theorem dX5_fewest_46 : decode cX5_fewest 46 = .ok (.aload_n 0, 1) := by decide +kernel
theorem dX5_fewest_47 : decode cX5_fewest 47 = .ok (.iload_n 1, 1) := by decide +kernel
theorem dX5_fewest_48 : decode cX5_fewest 48 = .ok (.invokevirtual 182, 3) := by decide +kernel
theorem dX5_fewest_51 : decode cX5_fewest 51 = .ok (.iload_n 3, 1) := by decide +kernel
theorem dX5_fewest_52 : decode cX5_fewest 52 = .ok (.ifCond .ne 14, 3) := by decide +kernel
theorem dX5_fewest_55 : decode cX5_fewest 55 = .ok (.aload_n 0, 1) := by decide +kernel
theorem dX5_fewest_56 : decode cX5_fewest 56 = .ok (.getfield 25, 3) := by decide +kernel
theorem dX5_fewest_59 : decode cX5_fewest 59 = .ok (.iload_n 2, 1) := by decide +kernel
theorem dX5_fewest_60 : decode cX5_fewest 60 = .ok (.invokevirtual 185, 3) := by decide +kernel
theorem dX5_fewest_63 : decode cX5_fewest 63 = .ok (.goto 11, 3) := by decide +kernel
theorem dX5_fewest_66 : decode cX5_fewest 66 = .ok (.aload_n 0, 1) := by decide +kernel
theorem dX5_fewest_67 : decode cX5_fewest 67 = .ok (.getfield 25, 3) := by decide +kernel
theorem dX5_fewest_70 : decode cX5_fewest 70 = .ok (.iload_n 2, 1) := by decide +kernel
theorem dX5_fewest_71 : decode cX5_fewest 71 = .ok (.invokevirtual 188, 3) := by decide +kernel
theorem dX5_fewest_74 : decode cX5_fewest 74 = .ok (.ireturn, 1) := by decide +kernel
theorem dX5_best_0 : decode cX5_best 0 = .ok (.iload_n 1, 1) := by decide +kernel
theorem dX5_best_1 : decode cX5_best 1 = .ok (.invokestatic 176, 3) := by decide +kernel
theorem dX5_best_4 : decode cX5_best 4 = .ok (.ifCond .eq 12, 3) := by decide +kernel
theorem dX5_best_7 : decode cX5_best 7 = .ok (.iload_n 2, 1) := by decide +kernel
theorem dX5_best_8 : decode cX5_best 8 = .ok (.iconst 0, 1) := by decide +kernel
theorem dX5_best_9 : decode cX5_best 9 = .ok (.iconst 1, 1) := by decide +kernel
theorem dX5_best_10 : decode cX5_best 10 = .ok (.invokestatic 78, 3) := by decide +kernel
theorem dX5_best_13 : decode cX5_best 13 = .ok (.ifCond .ne 6, 3) := by decide +kernel
theorem dX5_best_16 : decode cX5_best 16 = .ok (.bipush (-2), 2) := by decide +kernel
theorem dX5_best_18 : decode cX5_best 18 = .ok (.ireturn, 1) := by decide +kernel
theorem dX5_best_19 : decode cX5_best 19 = .ok (.aload_n 0, 1) := by decide +kernel
theorem dX5_best_20 : decode cX5_best 20 = .ok (.getfield 34, 3) := by decide +kernel
theorem dX5_best_23 : decode cX5_best 23 = .ok (.getfield 191, 3) := by decide +kernel
theorem dX5_best_26 : decode cX5_best 26 = .ok (.iconst 4, 1) := by decide +kernel
theorem dX5_best_27 : decode cX5_best 27 = .ok (.if_icmp .le 6, 3) := by decide +kernel
theorem dX5_best_30 : decode cX5_best 30 = .ok (.bipush (-3), 2) := by decide +kernel
theorem dX5_best_32 : decode cX5_best 32 = .ok (.ireturn, 1) := by decide +kernel
theorem dX5_best_33 : decode cX5_best 33 = .ok (.iconst (-1), 1) := by decide +kernel
theorem dX5_best_34 : decode cX5_best 34 = .ok (.istore_n 3, 1) := by decide +kernel
theorem dX5_best_35 : decode cX5_best 35 = .ok (.iconst (-1), 1) := by decide +kernel
theorem dX5_best_36 : decode cX5_best 36 = .ok (.istore 4, 2) := by decide +kernel
theorem dX5_best_38 : decode cX5_best 38 = .ok (.iconst 0, 1) := by decide +kernel
theorem dX5_best_39 : decode cX5_best 39 = .ok (.istore 5, 2) := by decide +kernel
theorem dX5_best_41 : decode cX5_best 41 = .ok (.iload 5, 2) := by decide +kernel
theorem dX5_best_43 : decode cX5_best 43 = .ok (.aload_n 0, 1) := by decide +kernel
theorem dX5_best_44 : decode cX5_best 44 = .ok (.getfield 34, 3) := by decide +kernel
theorem dX5_best_47 : decode cX5_best 47 = .ok (.getfield 191, 3) := by decide +kernel
theorem dX5_best_50 : decode cX5_best 50 = .ok (.if_icmp .ge 115, 3) := by decide +kernel
theorem dX5_best_53 : decode cX5_best 53 = .ok (.iload 5, 2) := by decide +kernel
theorem dX5_best_55 : decode cX5_best 55 = .ok (.iconst 1, 1) := by decide +kernel
theorem dX5_best_56 : decode cX5_best 56 = .ok (.iadd, 1) := by decide +kernel
theorem dX5_best_57 : decode cX5_best 57 = .ok (.istore 6, 2) := by decide +kernel
theorem dX5_best_59 : decode cX5_best 59 = .ok (.iload 6, 2) := by decide +kernel
theorem dX5_best_61 : decode cX5_best 61 = .ok (.aload_n 0, 1) := by decide +kernel
theorem dX5_best_62 : decode cX5_best 62 = .ok (.getfield 34, 3) := by decide +kernel
theorem dX5_best_65 : decode cX5_best 65 = .ok (.getfield 191, 3) := by decide +kernel
theorem dX5_best_68 : decode cX5_best 68 = .ok (.if_icmp .ge 91, 3) := by decide +kernel
theorem dX5_best_71 : decode cX5_best 71 = .ok (.iload 6, 2) := by decide +kernel
theorem dX5_best_73 : decode cX5_best 73 = .ok (.iconst 1, 1) := by decide +kernel
theorem dX5_best_74 : decode cX5_best 74 = .ok (.iadd, 1) := by decide +kernel
theorem dX5_best_75 : decode cX5_best 75 = .ok (.istore 7, 2) := by decide +kernel
theorem dX5_best_77 : decode cX5_best 77 = .ok (.iload 7, 2) := by decide +kernel
theorem dX5_best_79 : decode cX5_best 79 = .ok (.aload_n 0, 1) := by decide +kernel
theorem dX5_best_80 : decode cX5_best 80 = .ok (.getfield 34, 3) := by decide +kernel
theorem dX5_best_83 : decode cX5_best 83 = .ok (.getfield 191, 3) := by decide +kernel
theorem dX5_best_86 : decode cX5_best 86 = .ok (.if_icmp .ge 67, 3) := by decide +kernel
theorem dX5_best_89 : decode cX5_best 89 = .ok (.iload 5, 2) := by decide +kernel
theorem dX5_best_91 : decode cX5_best 91 = .ok (.bipush 100, 2) := by decide +kernel
theorem dX5_best_93 : decode cX5_best 93 = .ok (.imul, 1) := by decide +kernel
theorem dX5_best_94 : decode cX5_best 94 = .ok (.iload 6, 2) := by decide +kernel
theorem dX5_best_96 : decode cX5_best 96 = .ok (.bipush 10, 2) := by decide +kernel
theorem dX5_best_98 : decode cX5_best 98 = .ok (.imul, 1) := by decide +kernel
theorem dX5_best_99 : decode cX5_best 99 = .ok (.iadd, 1) := by decide +kernel
theorem dX5_best_100 : decode cX5_best 100 = .ok (.iload 7, 2) := by decide +kernel
theorem dX5_best_102 : decode cX5_best 102 = .ok (.iadd, 1) := by decide +kernel
theorem dX5_best_103 : decode cX5_best 103 = .ok (.istore 8, 2) := by decide +kernel
theorem dX5_best_105 : decode cX5_best 105 = .ok (.aload_n 0, 1) := by decide +kernel
theorem dX5_best_106 : decode cX5_best 106 = .ok (.iload 8, 2) := by decide +kernel
theorem dX5_best_108 : decode cX5_best 108 = .ok (.invokevirtual 182, 3) := by decide +kernel
theorem dX5_best_111 : decode cX5_best 111 = .ok (.aload_n 0, 1) := by decide +kernel
theorem dX5_best_112 : decode cX5_best 112 = .ok (.getfield 25, 3) := by decide +kernel
theorem dX5_best_115 : decode cX5_best 115 = .ok (.iload_n 1, 1) := by decide +kernel
theorem dX5_best_116 : decode cX5_best 116 = .ok (.invokevirtual 185, 3) := by decide +kernel
theorem dX5_best_119 : decode cX5_best 119 = .ok (.istore 9, 2) := by decide +kernel
theorem dX5_best_121 : decode cX5_best 121 = .ok (.iload 9, 2) := by decide +kernel
theorem dX5_best_123 : decode cX5_best 123 = .ok (.iconst (-1), 1) := by decide +kernel
theorem dX5_best_124 : decode cX5_best 124 = .ok (.if_icmp .eq 23, 3) := by decide +kernel
theorem dX5_best_127 : decode cX5_best 127 = .ok (.iload 4, 2) := by decide +kernel
theorem dX5_best_129 : decode cX5_best 129 = .ok (.iconst (-1), 1) := by decide +kernel
theorem dX5_best_130 : decode cX5_best 130 = .ok (.if_icmp .eq 10, 3) := by decide +kernel
theorem dX5_best_133 : decode cX5_best 133 = .ok (.iload 9, 2) := by decide +kernel
theorem dX5_best_135 : decode cX5_best 135 = .ok (.iload 4, 2) := by decide +kernel
theorem dX5_best_137 : decode cX5_best 137 = .ok (.if_icmp .ge 10, 3) := by decide +kernel
theorem dX5_best_140 : decode cX5_best 140 = .ok (.iload 8, 2) := by decide +kernel
theorem dX5_best_142 : decode cX5_best 142 = .ok (.istore_n 3, 1) := by decide +kernel
theorem dX5_best_143 : decode cX5_best 143 = .ok (.iload 9, 2) := by decide +kernel
theorem dX5_best_145 : decode cX5_best 145 = .ok (.istore 4, 2) := by decide +kernel
theorem dX5_best_147 : decode cX5_best 147 = .ok (.iinc 7 1, 3) := by decide +kernel
theorem dX5_best_150 : decode cX5_best 150 = .ok (.goto (-73), 3) := by decide +kernel
theorem dX5_best_153 : decode cX5_best 153 = .ok (.iinc 6 1, 3) := by decide +kernel
theorem dX5_best_156 : decode cX5_best 156 = .ok (.goto (-97), 3) := by decide +kernel
theorem dX5_best_159 : decode cX5_best 159 = .ok (.iinc 5 1, 3) := by decide +kernel
theorem dX5_best_162 : decode cX5_best 162 = .ok (.goto (-121), 3) := by decide +kernel
theorem dX5_best_165 : decode cX5_best 165 = .ok (.iload_n 2, 1) := by decide +kernel
theorem dX5_best_166 : decode cX5_best 166 = .ok (.ifCond .ne 7, 3) := by decide +kernel
theorem dX5_best_169 : decode cX5_best 169 = .ok (.iload_n 3, 1) := by decide +kernel
theorem dX5_best_170 : decode cX5_best 170 = .ok (.goto 5, 3) := by decide +kernel
theorem dX5_best_173 : decode cX5_best 173 = .ok (.iload 4, 2) := by decide +kernel
theorem dX5_best_175 : decode cX5_best 175 = .ok (.ireturn, 1) := by decide +kernel
theorem dX5_makes_0 : decode cX5_makes 0 = .ok (.aload_n 0, 1) := by decide +kernel
theorem dX5_makes_1 : decode cX5_makes 1 = .ok (.iload_n 1, 1) := by decide +kernel
theorem dX5_makes_2 : decode cX5_makes 2 = .ok (.invokevirtual 167, 3) := by decide +kernel
theorem dX5_makes_5 : decode cX5_makes 5 = .ok (.ifCond .eq 19, 3) := by decide +kernel
theorem dX5_makes_8 : decode cX5_makes 8 = .ok (.iload_n 2, 1) := by decide +kernel
theorem dX5_makes_9 : decode cX5_makes 9 = .ok (.invokestatic 176, 3) := by decide +kernel
theorem dX5_makes_12 : decode cX5_makes 12 = .ok (.ifCond .eq 12, 3) := by decide +kernel
theorem dX5_makes_15 : decode cX5_makes 15 = .ok (.iload_n 3, 1) := by decide +kernel
theorem dX5_makes_16 : decode cX5_makes 16 = .ok (.iconst 0, 1) := by decide +kernel
theorem dX5_makes_17 : decode cX5_makes 17 = .ok (.iconst 1, 1) := by decide +kernel
theorem dX5_makes_18 : decode cX5_makes 18 = .ok (.invokestatic 78, 3) := by decide +kernel
theorem dX5_makes_21 : decode cX5_makes 21 = .ok (.ifCond .ne 6, 3) := by decide +kernel
theorem dX5_makes_24 : decode cX5_makes 24 = .ok (.bipush (-2), 2) := by decide +kernel
theorem dX5_makes_26 : decode cX5_makes 26 = .ok (.ireturn, 1) := by decide +kernel
theorem dX5_makes_27 : decode cX5_makes 27 = .ok (.iload_n 1, 1) := by decide +kernel
theorem dX5_makes_28 : decode cX5_makes 28 = .ok (.bipush 100, 2) := by decide +kernel
theorem dX5_makes_30 : decode cX5_makes 30 = .ok (.idiv, 1) := by decide +kernel
theorem dX5_makes_31 : decode cX5_makes 31 = .ok (.istore 4, 2) := by decide +kernel
theorem dX5_makes_33 : decode cX5_makes 33 = .ok (.iload_n 1, 1) := by decide +kernel
theorem dX5_makes_34 : decode cX5_makes 34 = .ok (.bipush 10, 2) := by decide +kernel
theorem dX5_makes_36 : decode cX5_makes 36 = .ok (.idiv, 1) := by decide +kernel
theorem dX5_makes_37 : decode cX5_makes 37 = .ok (.bipush 10, 2) := by decide +kernel
theorem dX5_makes_39 : decode cX5_makes 39 = .ok (.irem, 1) := by decide +kernel
theorem dX5_makes_40 : decode cX5_makes 40 = .ok (.istore 5, 2) := by decide +kernel
theorem dX5_makes_42 : decode cX5_makes 42 = .ok (.iload_n 3, 1) := by decide +kernel
theorem dX5_makes_43 : decode cX5_makes 43 = .ok (.ifCond .ne 21, 3) := by decide +kernel
theorem dX5_makes_46 : decode cX5_makes 46 = .ok (.aload_n 0, 1) := by decide +kernel
theorem dX5_makes_47 : decode cX5_makes 47 = .ok (.getfield 34, 3) := by decide +kernel
theorem dX5_makes_50 : decode cX5_makes 50 = .ok (.getfield 93, 3) := by decide +kernel
theorem dX5_makes_53 : decode cX5_makes 53 = .ok (.iload 4, 2) := by decide +kernel
theorem dX5_makes_55 : decode cX5_makes 55 = .ok (.iaload, 1) := by decide +kernel
theorem dX5_makes_56 : decode cX5_makes 56 = .ok (.bipush 40, 2) := by decide +kernel
theorem dX5_makes_58 : decode cX5_makes 58 = .ok (.invokestatic 192, 3) := by decide +kernel
theorem dX5_makes_61 : decode cX5_makes 61 = .ok (.goto 5, 3) := by decide +kernel
theorem dX5_makes_64 : decode cX5_makes 64 = .ok (.bipush 10, 2) := by decide +kernel
theorem dX5_makes_66 : decode cX5_makes 66 = .ok (.istore 6, 2) := by decide +kernel
theorem dX5_makes_68 : decode cX5_makes 68 = .ok (.iconst 0, 1) := by decide +kernel
theorem dX5_makes_69 : decode cX5_makes 69 = .ok (.istore 7, 2) := by decide +kernel
theorem dX5_makes_71 : decode cX5_makes 71 = .ok (.iload 7, 2) := by decide +kernel
theorem dX5_makes_73 : decode cX5_makes 73 = .ok (.iload 6, 2) := by decide +kernel
theorem dX5_makes_75 : decode cX5_makes 75 = .ok (.if_icmp .gt 69, 3) := by decide +kernel
theorem dX5_makes_78 : decode cX5_makes 78 = .ok (.aload_n 0, 1) := by decide +kernel
theorem dX5_makes_79 : decode cX5_makes 79 = .ok (.getfield 38, 3) := by decide +kernel
theorem dX5_makes_82 : decode cX5_makes 82 = .ok (.aload_n 0, 1) := by decide +kernel
theorem dX5_makes_83 : decode cX5_makes 83 = .ok (.getfield 34, 3) := by decide +kernel
theorem dX5_makes_86 : decode cX5_makes 86 = .ok (.invokevirtual 151, 3) := by decide +kernel
theorem dX5_makes_89 : decode cX5_makes 89 = .ok (.iload_n 3, 1) := by decide +kernel
theorem dX5_makes_90 : decode cX5_makes 90 = .ok (.ifCond .ne 19, 3) := by decide +kernel
theorem dX5_makes_93 : decode cX5_makes 93 = .ok (.aload_n 0, 1) := by decide +kernel
theorem dX5_makes_94 : decode cX5_makes 94 = .ok (.getfield 38, 3) := by decide +kernel
theorem dX5_makes_97 : decode cX5_makes 97 = .ok (.iload 4, 2) := by decide +kernel
theorem dX5_makes_99 : decode cX5_makes 99 = .ok (.iload 5, 2) := by decide +kernel
theorem dX5_makes_101 : decode cX5_makes 101 = .ok (.iload 7, 2) := by decide +kernel
theorem dX5_makes_103 : decode cX5_makes 103 = .ok (.invokevirtual 147, 3) := by decide +kernel
theorem dX5_makes_106 : decode cX5_makes 106 = .ok (.goto 12, 3) := by decide +kernel
theorem dX5_makes_109 : decode cX5_makes 109 = .ok (.aload_n 0, 1) := by decide +kernel
theorem dX5_makes_110 : decode cX5_makes 110 = .ok (.getfield 38, 3) := by decide +kernel
theorem dX5_makes_113 : decode cX5_makes 113 = .ok (.iload 7, 2) := by decide +kernel
theorem dX5_makes_115 : decode cX5_makes 115 = .ok (.invokevirtual 154, 3) := by decide +kernel
theorem dX5_makes_118 : decode cX5_makes 118 = .ok (.aload_n 0, 1) := by decide +kernel
theorem dX5_makes_119 : decode cX5_makes 119 = .ok (.aload_n 0, 1) := by decide +kernel
theorem dX5_makes_120 : decode cX5_makes 120 = .ok (.getfield 38, 3) := by decide +kernel
theorem dX5_makes_123 : decode cX5_makes 123 = .ok (.iload_n 1, 1) := by decide +kernel
theorem dX5_makes_124 : decode cX5_makes 124 = .ok (.invokevirtual 172, 3) := by decide +kernel
theorem dX5_makes_127 : decode cX5_makes 127 = .ok (.iload_n 2, 1) := by decide +kernel
theorem dX5_makes_128 : decode cX5_makes 128 = .ok (.ishr, 1) := by decide +kernel
theorem dX5_makes_129 : decode cX5_makes 129 = .ok (.iconst 1, 1) := by decide +kernel
theorem dX5_makes_130 : decode cX5_makes 130 = .ok (.iand, 1) := by decide +kernel
theorem dX5_makes_131 : decode cX5_makes 131 = .ok (.iconst 1, 1) := by decide +kernel
theorem dX5_makes_132 : decode cX5_makes 132 = .ok (.if_icmp .ne 6, 3) := by decide +kernel
theorem dX5_makes_135 : decode cX5_makes 135 = .ok (.iload 7, 2) := by decide +kernel
theorem dX5_makes_137 : decode cX5_makes 137 = .ok (.ireturn, 1) := by decide +kernel
theorem dX5_makes_138 : decode cX5_makes 138 = .ok (.iinc 7 1, 3) := by decide +kernel
theorem dX5_makes_141 : decode cX5_makes 141 = .ok (.goto (-70), 3) := by decide +kernel
theorem dX5_makes_144 : decode cX5_makes 144 = .ok (.iconst (-1), 1) := by decide +kernel
theorem dX5_makes_145 : decode cX5_makes 145 = .ok (.ireturn, 1) := by decide +kernel
theorem dX5_nextTold_0 : decode cX5_nextTold 0 = .ok (.iload_n 1, 1) := by decide +kernel
theorem dX5_nextTold_1 : decode cX5_nextTold 1 = .ok (.istore_n 2, 1) := by decide +kernel
theorem dX5_nextTold_2 : decode cX5_nextTold 2 = .ok (.iload_n 2, 1) := by decide +kernel
theorem dX5_nextTold_3 : decode cX5_nextTold 3 = .ok (.bipush 30, 2) := by decide +kernel
theorem dX5_nextTold_5 : decode cX5_nextTold 5 = .ok (.if_icmp .gt 20, 3) := by decide +kernel
theorem dX5_nextTold_8 : decode cX5_nextTold 8 = .ok (.iload_n 0, 1) := by decide +kernel
theorem dX5_nextTold_9 : decode cX5_nextTold 9 = .ok (.iload_n 2, 1) := by decide +kernel
theorem dX5_nextTold_10 : decode cX5_nextTold 10 = .ok (.ishr, 1) := by decide +kernel
theorem dX5_nextTold_11 : decode cX5_nextTold 11 = .ok (.iconst 1, 1) := by decide +kernel
theorem dX5_nextTold_12 : decode cX5_nextTold 12 = .ok (.iand, 1) := by decide +kernel
theorem dX5_nextTold_13 : decode cX5_nextTold 13 = .ok (.iconst 1, 1) := by decide +kernel
theorem dX5_nextTold_14 : decode cX5_nextTold 14 = .ok (.if_icmp .ne 5, 3) := by decide +kernel
theorem dX5_nextTold_17 : decode cX5_nextTold 17 = .ok (.iload_n 2, 1) := by decide +kernel
theorem dX5_nextTold_18 : decode cX5_nextTold 18 = .ok (.ireturn, 1) := by decide +kernel
theorem dX5_nextTold_19 : decode cX5_nextTold 19 = .ok (.iinc 2 1, 3) := by decide +kernel
theorem dX5_nextTold_22 : decode cX5_nextTold 22 = .ok (.goto (-20), 3) := by decide +kernel
theorem dX5_nextTold_25 : decode cX5_nextTold 25 = .ok (.iconst (-1), 1) := by decide +kernel
theorem dX5_nextTold_26 : decode cX5_nextTold 26 = .ok (.ireturn, 1) := by decide +kernel
theorem dX5_isThree_0 : decode cX5_isThree 0 = .ok (.iload_n 1, 1) := by decide +kernel
theorem dX5_isThree_1 : decode cX5_isThree 1 = .ok (.iconst 0, 1) := by decide +kernel
theorem dX5_isThree_2 : decode cX5_isThree 2 = .ok (.sipush 999, 3) := by decide +kernel
theorem dX5_isThree_5 : decode cX5_isThree 5 = .ok (.invokestatic 78, 3) := by decide +kernel
theorem dX5_isThree_8 : decode cX5_isThree 8 = .ok (.ifCond .ne 5, 3) := by decide +kernel
theorem dX5_isThree_11 : decode cX5_isThree 11 = .ok (.iconst 0, 1) := by decide +kernel
theorem dX5_isThree_12 : decode cX5_isThree 12 = .ok (.ireturn, 1) := by decide +kernel
theorem dX5_isThree_13 : decode cX5_isThree 13 = .ok (.iload_n 1, 1) := by decide +kernel
theorem dX5_isThree_14 : decode cX5_isThree 14 = .ok (.bipush 100, 2) := by decide +kernel
theorem dX5_isThree_16 : decode cX5_isThree 16 = .ok (.idiv, 1) := by decide +kernel
theorem dX5_isThree_17 : decode cX5_isThree 17 = .ok (.istore_n 2, 1) := by decide +kernel
theorem dX5_isThree_18 : decode cX5_isThree 18 = .ok (.iload_n 1, 1) := by decide +kernel
theorem dX5_isThree_19 : decode cX5_isThree 19 = .ok (.bipush 10, 2) := by decide +kernel
theorem dX5_isThree_21 : decode cX5_isThree 21 = .ok (.idiv, 1) := by decide +kernel
theorem dX5_isThree_22 : decode cX5_isThree 22 = .ok (.bipush 10, 2) := by decide +kernel
theorem dX5_isThree_24 : decode cX5_isThree 24 = .ok (.irem, 1) := by decide +kernel
theorem dX5_isThree_25 : decode cX5_isThree 25 = .ok (.istore_n 3, 1) := by decide +kernel
theorem dX5_isThree_26 : decode cX5_isThree 26 = .ok (.iload_n 1, 1) := by decide +kernel
theorem dX5_isThree_27 : decode cX5_isThree 27 = .ok (.bipush 10, 2) := by decide +kernel
theorem dX5_isThree_29 : decode cX5_isThree 29 = .ok (.irem, 1) := by decide +kernel
theorem dX5_isThree_30 : decode cX5_isThree 30 = .ok (.istore 4, 2) := by decide +kernel
theorem dX5_isThree_32 : decode cX5_isThree 32 = .ok (.aload_n 0, 1) := by decide +kernel
theorem dX5_isThree_33 : decode cX5_isThree 33 = .ok (.getfield 34, 3) := by decide +kernel
theorem dX5_isThree_36 : decode cX5_isThree 36 = .ok (.iload_n 2, 1) := by decide +kernel
theorem dX5_isThree_37 : decode cX5_isThree 37 = .ok (.invokevirtual 106, 3) := by decide +kernel
theorem dX5_isThree_40 : decode cX5_isThree 40 = .ok (.ifCond .eq 47, 3) := by decide +kernel
theorem dX5_isThree_43 : decode cX5_isThree 43 = .ok (.aload_n 0, 1) := by decide +kernel
theorem dX5_isThree_44 : decode cX5_isThree 44 = .ok (.getfield 34, 3) := by decide +kernel
theorem dX5_isThree_47 : decode cX5_isThree 47 = .ok (.iload_n 3, 1) := by decide +kernel
theorem dX5_isThree_48 : decode cX5_isThree 48 = .ok (.invokevirtual 106, 3) := by decide +kernel
theorem dX5_isThree_51 : decode cX5_isThree 51 = .ok (.ifCond .eq 36, 3) := by decide +kernel
theorem dX5_isThree_54 : decode cX5_isThree 54 = .ok (.aload_n 0, 1) := by decide +kernel
theorem dX5_isThree_55 : decode cX5_isThree 55 = .ok (.getfield 34, 3) := by decide +kernel
theorem dX5_isThree_58 : decode cX5_isThree 58 = .ok (.iload 4, 2) := by decide +kernel
theorem dX5_isThree_60 : decode cX5_isThree 60 = .ok (.invokevirtual 106, 3) := by decide +kernel
theorem dX5_isThree_63 : decode cX5_isThree 63 = .ok (.ifCond .eq 24, 3) := by decide +kernel
theorem dX5_isThree_66 : decode cX5_isThree 66 = .ok (.iload_n 2, 1) := by decide +kernel
theorem dX5_isThree_67 : decode cX5_isThree 67 = .ok (.iload_n 3, 1) := by decide +kernel
theorem dX5_isThree_68 : decode cX5_isThree 68 = .ok (.if_icmp .eq 19, 3) := by decide +kernel
theorem dX5_isThree_71 : decode cX5_isThree 71 = .ok (.iload_n 2, 1) := by decide +kernel
theorem dX5_isThree_72 : decode cX5_isThree 72 = .ok (.iload 4, 2) := by decide +kernel
theorem dX5_isThree_74 : decode cX5_isThree 74 = .ok (.if_icmp .eq 13, 3) := by decide +kernel
theorem dX5_isThree_77 : decode cX5_isThree 77 = .ok (.iload_n 3, 1) := by decide +kernel
theorem dX5_isThree_78 : decode cX5_isThree 78 = .ok (.iload 4, 2) := by decide +kernel
theorem dX5_isThree_80 : decode cX5_isThree 80 = .ok (.if_icmp .eq 7, 3) := by decide +kernel
theorem dX5_isThree_83 : decode cX5_isThree 83 = .ok (.iconst 1, 1) := by decide +kernel
theorem dX5_isThree_84 : decode cX5_isThree 84 = .ok (.goto 4, 3) := by decide +kernel
theorem dX5_isThree_87 : decode cX5_isThree 87 = .ok (.iconst 0, 1) := by decide +kernel
theorem dX5_isThree_88 : decode cX5_isThree 88 = .ok (.ireturn, 1) := by decide +kernel
theorem dX5_timesOf_0 : decode cX5_timesOf 0 = .ok (.aload_n 0, 1) := by decide +kernel
theorem dX5_timesOf_1 : decode cX5_timesOf 1 = .ok (.getfield 25, 3) := by decide +kernel
theorem dX5_timesOf_4 : decode cX5_timesOf 4 = .ok (.aload_n 1, 1) := by decide +kernel
theorem dX5_timesOf_5 : decode cX5_timesOf 5 = .ok (.iload_n 2, 1) := by decide +kernel
theorem dX5_timesOf_6 : decode cX5_timesOf 6 = .ok (.bipush 100, 2) := by decide +kernel
theorem dX5_timesOf_8 : decode cX5_timesOf 8 = .ok (.idiv, 1) := by decide +kernel
theorem dX5_timesOf_9 : decode cX5_timesOf 9 = .ok (.invokevirtual 122, 3) := by decide +kernel
theorem dX5_timesOf_12 : decode cX5_timesOf 12 = .ok (.aload_n 1, 1) := by decide +kernel
theorem dX5_timesOf_13 : decode cX5_timesOf 13 = .ok (.iload_n 2, 1) := by decide +kernel
theorem dX5_timesOf_14 : decode cX5_timesOf 14 = .ok (.bipush 10, 2) := by decide +kernel
theorem dX5_timesOf_16 : decode cX5_timesOf 16 = .ok (.idiv, 1) := by decide +kernel
theorem dX5_timesOf_17 : decode cX5_timesOf 17 = .ok (.bipush 10, 2) := by decide +kernel
theorem dX5_timesOf_19 : decode cX5_timesOf 19 = .ok (.irem, 1) := by decide +kernel
theorem dX5_timesOf_20 : decode cX5_timesOf 20 = .ok (.invokevirtual 122, 3) := by decide +kernel
theorem dX5_timesOf_23 : decode cX5_timesOf 23 = .ok (.aload_n 1, 1) := by decide +kernel
theorem dX5_timesOf_24 : decode cX5_timesOf 24 = .ok (.iload_n 2, 1) := by decide +kernel
theorem dX5_timesOf_25 : decode cX5_timesOf 25 = .ok (.bipush 10, 2) := by decide +kernel
theorem dX5_timesOf_27 : decode cX5_timesOf 27 = .ok (.irem, 1) := by decide +kernel
theorem dX5_timesOf_28 : decode cX5_timesOf 28 = .ok (.invokevirtual 122, 3) := by decide +kernel
theorem dX5_timesOf_31 : decode cX5_timesOf 31 = .ok (.invokevirtual 197, 3) := by decide +kernel
theorem dX5_timesOf_34 : decode cX5_timesOf 34 = .ok (.ireturn, 1) := by decide +kernel
theorem dX5_layGlasses_0 : decode cX5_layGlasses 0 = .ok (.aload_n 0, 1) := by decide +kernel
theorem dX5_layGlasses_1 : decode cX5_layGlasses 1 = .ok (.getfield 25, 3) := by decide +kernel
theorem dX5_layGlasses_4 : decode cX5_layGlasses 4 = .ok (.aload_n 0, 1) := by decide +kernel
theorem dX5_layGlasses_5 : decode cX5_layGlasses 5 = .ok (.getfield 34, 3) := by decide +kernel
theorem dX5_layGlasses_8 : decode cX5_layGlasses 8 = .ok (.iload_n 1, 1) := by decide +kernel
theorem dX5_layGlasses_9 : decode cX5_layGlasses 9 = .ok (.bipush 100, 2) := by decide +kernel
theorem dX5_layGlasses_11 : decode cX5_layGlasses 11 = .ok (.idiv, 1) := by decide +kernel
theorem dX5_layGlasses_12 : decode cX5_layGlasses 12 = .ok (.invokevirtual 122, 3) := by decide +kernel
theorem dX5_layGlasses_15 : decode cX5_layGlasses 15 = .ok (.aload_n 0, 1) := by decide +kernel
theorem dX5_layGlasses_16 : decode cX5_layGlasses 16 = .ok (.getfield 34, 3) := by decide +kernel
theorem dX5_layGlasses_19 : decode cX5_layGlasses 19 = .ok (.iload_n 1, 1) := by decide +kernel
theorem dX5_layGlasses_20 : decode cX5_layGlasses 20 = .ok (.bipush 10, 2) := by decide +kernel
theorem dX5_layGlasses_22 : decode cX5_layGlasses 22 = .ok (.idiv, 1) := by decide +kernel
theorem dX5_layGlasses_23 : decode cX5_layGlasses 23 = .ok (.bipush 10, 2) := by decide +kernel
theorem dX5_layGlasses_25 : decode cX5_layGlasses 25 = .ok (.irem, 1) := by decide +kernel
theorem dX5_layGlasses_26 : decode cX5_layGlasses 26 = .ok (.invokevirtual 122, 3) := by decide +kernel
theorem dX5_layGlasses_29 : decode cX5_layGlasses 29 = .ok (.aload_n 0, 1) := by decide +kernel
theorem dX5_layGlasses_30 : decode cX5_layGlasses 30 = .ok (.getfield 34, 3) := by decide +kernel
theorem dX5_layGlasses_33 : decode cX5_layGlasses 33 = .ok (.iload_n 1, 1) := by decide +kernel
theorem dX5_layGlasses_34 : decode cX5_layGlasses 34 = .ok (.bipush 10, 2) := by decide +kernel
theorem dX5_layGlasses_36 : decode cX5_layGlasses 36 = .ok (.irem, 1) := by decide +kernel
theorem dX5_layGlasses_37 : decode cX5_layGlasses 37 = .ok (.invokevirtual 122, 3) := by decide +kernel
theorem dX5_layGlasses_40 : decode cX5_layGlasses 40 = .ok (.invokevirtual 199, 3) := by decide +kernel
theorem dX5_layGlasses_43 : decode cX5_layGlasses 43 = .ok (.return_, 1) := by decide +kernel
theorem dX5_isMinute_0 : decode cX5_isMinute 0 = .ok (.iload_n 0, 1) := by decide +kernel
theorem dX5_isMinute_1 : decode cX5_isMinute 1 = .ok (.iconst 1, 1) := by decide +kernel
theorem dX5_isMinute_2 : decode cX5_isMinute 2 = .ok (.bipush 30, 2) := by decide +kernel
theorem dX5_isMinute_4 : decode cX5_isMinute 4 = .ok (.invokestatic 78, 3) := by decide +kernel
theorem dX5_isMinute_7 : decode cX5_isMinute 7 = .ok (.ireturn, 1) := by decide +kernel
theorem dX5_tells_0 : decode cX5_tells 0 = .ok (.iload_n 1, 1) := by decide +kernel
theorem dX5_tells_1 : decode cX5_tells 1 = .ok (.iconst 0, 1) := by decide +kernel
theorem dX5_tells_2 : decode cX5_tells 2 = .ok (.iconst 3, 1) := by decide +kernel
theorem dX5_tells_3 : decode cX5_tells 3 = .ok (.invokestatic 78, 3) := by decide +kernel
theorem dX5_tells_6 : decode cX5_tells 6 = .ok (.ifCond .eq 24, 3) := by decide +kernel
theorem dX5_tells_9 : decode cX5_tells 9 = .ok (.aload_n 0, 1) := by decide +kernel
theorem dX5_tells_10 : decode cX5_tells 10 = .ok (.getfield 34, 3) := by decide +kernel
theorem dX5_tells_13 : decode cX5_tells 13 = .ok (.iload_n 2, 1) := by decide +kernel
theorem dX5_tells_14 : decode cX5_tells 14 = .ok (.invokevirtual 106, 3) := by decide +kernel
theorem dX5_tells_17 : decode cX5_tells 17 = .ok (.ifCond .eq 13, 3) := by decide +kernel
theorem dX5_tells_20 : decode cX5_tells 20 = .ok (.iload_n 3, 1) := by decide +kernel
theorem dX5_tells_21 : decode cX5_tells 21 = .ok (.iconst 0, 1) := by decide +kernel
theorem dX5_tells_22 : decode cX5_tells 22 = .ok (.bipush 7, 2) := by decide +kernel
theorem dX5_tells_24 : decode cX5_tells 24 = .ok (.invokestatic 78, 3) := by decide +kernel
theorem dX5_tells_27 : decode cX5_tells 27 = .ok (.ifCond .ne 6, 3) := by decide +kernel
theorem dX5_tells_30 : decode cX5_tells 30 = .ok (.bipush (-2), 2) := by decide +kernel
theorem dX5_tells_32 : decode cX5_tells 32 = .ok (.ireturn, 1) := by decide +kernel
theorem dX5_tells_33 : decode cX5_tells 33 = .ok (.aload_n 0, 1) := by decide +kernel
theorem dX5_tells_34 : decode cX5_tells 34 = .ok (.getfield 46, 3) := by decide +kernel
theorem dX5_tells_37 : decode cX5_tells 37 = .ok (.iload_n 1, 1) := by decide +kernel
theorem dX5_tells_38 : decode cX5_tells 38 = .ok (.aaload, 1) := by decide +kernel
theorem dX5_tells_39 : decode cX5_tells 39 = .ok (.astore 4, 2) := by decide +kernel
theorem dX5_tells_41 : decode cX5_tells 41 = .ok (.aload 4, 2) := by decide +kernel
theorem dX5_tells_43 : decode cX5_tells 43 = .ok (.getfield 202, 3) := by decide +kernel
theorem dX5_tells_46 : decode cX5_tells 46 = .ok (.iconst (-1), 1) := by decide +kernel
theorem dX5_tells_47 : decode cX5_tells 47 = .ok (.if_icmp .ne 6, 3) := by decide +kernel
theorem dX5_tells_50 : decode cX5_tells 50 = .ok (.bipush (-11), 2) := by decide +kernel
theorem dX5_tells_52 : decode cX5_tells 52 = .ok (.ireturn, 1) := by decide +kernel
theorem dX5_tells_53 : decode cX5_tells 53 = .ok (.aload 4, 2) := by decide +kernel
theorem dX5_tells_55 : decode cX5_tells 55 = .ok (.getfield 205, 3) := by decide +kernel
theorem dX5_tells_58 : decode cX5_tells 58 = .ok (.bipush 30, 2) := by decide +kernel
theorem dX5_tells_60 : decode cX5_tells 60 = .ok (.if_icmp .le 6, 3) := by decide +kernel
theorem dX5_tells_63 : decode cX5_tells 63 = .ok (.bipush (-2), 2) := by decide +kernel
theorem dX5_tells_65 : decode cX5_tells 65 = .ok (.ireturn, 1) := by decide +kernel
theorem dX5_tells_66 : decode cX5_tells 66 = .ok (.iload_n 3, 1) := by decide +kernel
theorem dX5_tells_67 : decode cX5_tells 67 = .ok (.ifCond .ne 13, 3) := by decide +kernel
theorem dX5_tells_70 : decode cX5_tells 70 = .ok (.aload_n 0, 1) := by decide +kernel
theorem dX5_tells_71 : decode cX5_tells 71 = .ok (.aload 4, 2) := by decide +kernel
theorem dX5_tells_73 : decode cX5_tells 73 = .ok (.iload_n 2, 1) := by decide +kernel
theorem dX5_tells_74 : decode cX5_tells 74 = .ok (.iload_n 3, 1) := by decide +kernel
theorem dX5_tells_75 : decode cX5_tells 75 = .ok (.iconst 0, 1) := by decide +kernel
theorem dX5_tells_76 : decode cX5_tells 76 = .ok (.invokevirtual 206, 3) := by decide +kernel
theorem dX5_tells_79 : decode cX5_tells 79 = .ok (.ireturn, 1) := by decide +kernel
theorem dX5_tells_80 : decode cX5_tells 80 = .ok (.iconst 0, 1) := by decide +kernel
theorem dX5_tells_81 : decode cX5_tells 81 = .ok (.istore 5, 2) := by decide +kernel
theorem dX5_tells_83 : decode cX5_tells 83 = .ok (.iconst 0, 1) := by decide +kernel
theorem dX5_tells_84 : decode cX5_tells 84 = .ok (.istore 6, 2) := by decide +kernel
theorem dX5_tells_86 : decode cX5_tells 86 = .ok (.iconst (-1), 1) := by decide +kernel
theorem dX5_tells_87 : decode cX5_tells 87 = .ok (.istore 7, 2) := by decide +kernel
theorem dX5_tells_89 : decode cX5_tells 89 = .ok (.aload_n 0, 1) := by decide +kernel
theorem dX5_tells_90 : decode cX5_tells 90 = .ok (.iload_n 3, 1) := by decide +kernel
theorem dX5_tells_91 : decode cX5_tells 91 = .ok (.invokevirtual 210, 3) := by decide +kernel
theorem dX5_tells_94 : decode cX5_tells 94 = .ok (.iconst 1, 1) := by decide +kernel
theorem dX5_tells_95 : decode cX5_tells 95 = .ok (.isub, 1) := by decide +kernel
theorem dX5_tells_96 : decode cX5_tells 96 = .ok (.istore 8, 2) := by decide +kernel
theorem dX5_tells_98 : decode cX5_tells 98 = .ok (.iload 8, 2) := by decide +kernel
theorem dX5_tells_100 : decode cX5_tells 100 = .ok (.ifCond .lt 39, 3) := by decide +kernel
theorem dX5_tells_103 : decode cX5_tells 103 = .ok (.aload_n 0, 1) := by decide +kernel
theorem dX5_tells_104 : decode cX5_tells 104 = .ok (.aload 4, 2) := by decide +kernel
theorem dX5_tells_106 : decode cX5_tells 106 = .ok (.iload_n 2, 1) := by decide +kernel
theorem dX5_tells_107 : decode cX5_tells 107 = .ok (.iload_n 3, 1) := by decide +kernel
theorem dX5_tells_108 : decode cX5_tells 108 = .ok (.iload 8, 2) := by decide +kernel
theorem dX5_tells_110 : decode cX5_tells 110 = .ok (.invokevirtual 206, 3) := by decide +kernel
theorem dX5_tells_113 : decode cX5_tells 113 = .ok (.iconst (-1), 1) := by decide +kernel
theorem dX5_tells_114 : decode cX5_tells 114 = .ok (.if_icmp .ne 19, 3) := by decide +kernel
theorem dX5_tells_117 : decode cX5_tells 117 = .ok (.iload 5, 2) := by decide +kernel
theorem dX5_tells_119 : decode cX5_tells 119 = .ok (.iconst 1, 1) := by decide +kernel
theorem dX5_tells_120 : decode cX5_tells 120 = .ok (.iload 8, 2) := by decide +kernel
theorem dX5_tells_122 : decode cX5_tells 122 = .ok (.ishl, 1) := by decide +kernel
theorem dX5_tells_123 : decode cX5_tells 123 = .ok (.ior, 1) := by decide +kernel
theorem dX5_tells_124 : decode cX5_tells 124 = .ok (.istore 5, 2) := by decide +kernel
theorem dX5_tells_126 : decode cX5_tells 126 = .ok (.iinc 6 1, 3) := by decide +kernel
theorem dX5_tells_129 : decode cX5_tells 129 = .ok (.iload 8, 2) := by decide +kernel
theorem dX5_tells_131 : decode cX5_tells 131 = .ok (.istore 7, 2) := by decide +kernel
theorem dX5_tells_133 : decode cX5_tells 133 = .ok (.iinc 8 (-1), 3) := by decide +kernel
theorem dX5_tells_136 : decode cX5_tells 136 = .ok (.goto (-38), 3) := by decide +kernel
theorem dX5_tells_139 : decode cX5_tells 139 = .ok (.iload_n 3, 1) := by decide +kernel
theorem dX5_tells_140 : decode cX5_tells 140 = .ok (.lookupswitch 34 #[(4, 28), (5, 31)], 28) := by decide +kernel
theorem dX5_tells_168 : decode cX5_tells 168 = .ok (.iload 6, 2) := by decide +kernel
theorem dX5_tells_170 : decode cX5_tells 170 = .ok (.ireturn, 1) := by decide +kernel
theorem dX5_tells_171 : decode cX5_tells 171 = .ok (.iload 7, 2) := by decide +kernel
theorem dX5_tells_173 : decode cX5_tells 173 = .ok (.ireturn, 1) := by decide +kernel
theorem dX5_tells_174 : decode cX5_tells 174 = .ok (.iload 5, 2) := by decide +kernel
theorem dX5_tells_176 : decode cX5_tells 176 = .ok (.ireturn, 1) := by decide +kernel

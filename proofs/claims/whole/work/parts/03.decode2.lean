theorem dX5_film_0 : decode cX5_film 0 = .ok (.iload_n 1, 1) := by decide +kernel
theorem dX5_film_1 : decode cX5_film 1 = .ok (.iconst 0, 1) := by decide +kernel
theorem dX5_film_2 : decode cX5_film 2 = .ok (.iconst 3, 1) := by decide +kernel
theorem dX5_film_3 : decode cX5_film 3 = .ok (.invokestatic 78, 3) := by decide +kernel
theorem dX5_film_6 : decode cX5_film 6 = .ok (.ifCond .eq 24, 3) := by decide +kernel
theorem dX5_film_9 : decode cX5_film 9 = .ok (.aload_n 0, 1) := by decide +kernel
theorem dX5_film_10 : decode cX5_film 10 = .ok (.getfield 34, 3) := by decide +kernel
theorem dX5_film_13 : decode cX5_film 13 = .ok (.iload_n 2, 1) := by decide +kernel
theorem dX5_film_14 : decode cX5_film 14 = .ok (.invokevirtual 106, 3) := by decide +kernel
theorem dX5_film_17 : decode cX5_film 17 = .ok (.ifCond .eq 13, 3) := by decide +kernel
theorem dX5_film_20 : decode cX5_film 20 = .ok (.iload_n 3, 1) := by decide +kernel
theorem dX5_film_21 : decode cX5_film 21 = .ok (.iconst 0, 1) := by decide +kernel
theorem dX5_film_22 : decode cX5_film 22 = .ok (.bipush 30, 2) := by decide +kernel
theorem dX5_film_24 : decode cX5_film 24 = .ok (.invokestatic 78, 3) := by decide +kernel
theorem dX5_film_27 : decode cX5_film 27 = .ok (.ifCond .ne 6, 3) := by decide +kernel
theorem dX5_film_30 : decode cX5_film 30 = .ok (.bipush (-2), 2) := by decide +kernel
theorem dX5_film_32 : decode cX5_film 32 = .ok (.ireturn, 1) := by decide +kernel
theorem dX5_film_33 : decode cX5_film 33 = .ok (.aload_n 0, 1) := by decide +kernel
theorem dX5_film_34 : decode cX5_film 34 = .ok (.getfield 46, 3) := by decide +kernel
theorem dX5_film_37 : decode cX5_film 37 = .ok (.iload_n 1, 1) := by decide +kernel
theorem dX5_film_38 : decode cX5_film 38 = .ok (.aaload, 1) := by decide +kernel
theorem dX5_film_39 : decode cX5_film 39 = .ok (.astore 4, 2) := by decide +kernel
theorem dX5_film_41 : decode cX5_film 41 = .ok (.aload 4, 2) := by decide +kernel
theorem dX5_film_43 : decode cX5_film 43 = .ok (.iconst 0, 1) := by decide +kernel
theorem dX5_film_44 : decode cX5_film 44 = .ok (.iload_n 3, 1) := by decide +kernel
theorem dX5_film_45 : decode cX5_film 45 = .ok (.invokevirtual 213, 3) := by decide +kernel
theorem dX5_film_48 : decode cX5_film 48 = .ok (.aload_n 0, 1) := by decide +kernel
theorem dX5_film_49 : decode cX5_film 49 = .ok (.getfield 38, 3) := by decide +kernel
theorem dX5_film_52 : decode cX5_film 52 = .ok (.aload_n 0, 1) := by decide +kernel
theorem dX5_film_53 : decode cX5_film 53 = .ok (.getfield 34, 3) := by decide +kernel
theorem dX5_film_56 : decode cX5_film 56 = .ok (.invokevirtual 151, 3) := by decide +kernel
theorem dX5_film_59 : decode cX5_film 59 = .ok (.iconst 0, 1) := by decide +kernel
theorem dX5_film_60 : decode cX5_film 60 = .ok (.istore 5, 2) := by decide +kernel
theorem dX5_film_62 : decode cX5_film 62 = .ok (.iload 5, 2) := by decide +kernel
theorem dX5_film_64 : decode cX5_film 64 = .ok (.iload_n 3, 1) := by decide +kernel
theorem dX5_film_65 : decode cX5_film 65 = .ok (.if_icmp .ge 31, 3) := by decide +kernel
theorem dX5_film_68 : decode cX5_film 68 = .ok (.aload 4, 2) := by decide +kernel
theorem dX5_film_70 : decode cX5_film 70 = .ok (.iload 5, 2) := by decide +kernel
theorem dX5_film_72 : decode cX5_film 72 = .ok (.aload_n 0, 1) := by decide +kernel
theorem dX5_film_73 : decode cX5_film 73 = .ok (.getfield 38, 3) := by decide +kernel
theorem dX5_film_76 : decode cX5_film 76 = .ok (.iload_n 2, 1) := by decide +kernel
theorem dX5_film_77 : decode cX5_film 77 = .ok (.invokevirtual 122, 3) := by decide +kernel
theorem dX5_film_80 : decode cX5_film 80 = .ok (.invokevirtual 216, 3) := by decide +kernel
theorem dX5_film_83 : decode cX5_film 83 = .ok (.aload_n 0, 1) := by decide +kernel
theorem dX5_film_84 : decode cX5_film 84 = .ok (.getfield 38, 3) := by decide +kernel
theorem dX5_film_87 : decode cX5_film 87 = .ok (.invokevirtual 141, 3) := by decide +kernel
theorem dX5_film_90 : decode cX5_film 90 = .ok (.iinc 5 1, 3) := by decide +kernel
theorem dX5_film_93 : decode cX5_film 93 = .ok (.goto (-31), 3) := by decide +kernel
theorem dX5_film_96 : decode cX5_film 96 = .ok (.iload_n 3, 1) := by decide +kernel
theorem dX5_film_97 : decode cX5_film 97 = .ok (.ireturn, 1) := by decide +kernel
theorem dX5_drawn_0 : decode cX5_drawn 0 = .ok (.iload_n 2, 1) := by decide +kernel
theorem dX5_drawn_1 : decode cX5_drawn 1 = .ok (.iconst 0, 1) := by decide +kernel
theorem dX5_drawn_2 : decode cX5_drawn 2 = .ok (.bipush 40, 2) := by decide +kernel
theorem dX5_drawn_4 : decode cX5_drawn 4 = .ok (.invokestatic 78, 3) := by decide +kernel
theorem dX5_drawn_7 : decode cX5_drawn 7 = .ok (.ifCond .ne 6, 3) := by decide +kernel
theorem dX5_drawn_10 : decode cX5_drawn 10 = .ok (.bipush (-2), 2) := by decide +kernel
theorem dX5_drawn_12 : decode cX5_drawn 12 = .ok (.ireturn, 1) := by decide +kernel
theorem dX5_drawn_13 : decode cX5_drawn 13 = .ok (.aload_n 0, 1) := by decide +kernel
theorem dX5_drawn_14 : decode cX5_drawn 14 = .ok (.iload_n 1, 1) := by decide +kernel
theorem dX5_drawn_15 : decode cX5_drawn 15 = .ok (.iload_n 2, 1) := by decide +kernel
theorem dX5_drawn_16 : decode cX5_drawn 16 = .ok (.invokevirtual 219, 3) := by decide +kernel
theorem dX5_drawn_19 : decode cX5_drawn 19 = .ok (.ireturn, 1) := by decide +kernel
theorem dX5_chance_0 : decode cX5_chance 0 = .ok (.iload_n 2, 1) := by decide +kernel
theorem dX5_chance_1 : decode cX5_chance 1 = .ok (.iconst 1, 1) := by decide +kernel
theorem dX5_chance_2 : decode cX5_chance 2 = .ok (.bipush 20, 2) := by decide +kernel
theorem dX5_chance_4 : decode cX5_chance 4 = .ok (.invokestatic 78, 3) := by decide +kernel
theorem dX5_chance_7 : decode cX5_chance 7 = .ok (.ifCond .eq 23, 3) := by decide +kernel
theorem dX5_chance_10 : decode cX5_chance 10 = .ok (.iload_n 3, 1) := by decide +kernel
theorem dX5_chance_11 : decode cX5_chance 11 = .ok (.iconst 0, 1) := by decide +kernel
theorem dX5_chance_12 : decode cX5_chance 12 = .ok (.bipush 99, 2) := by decide +kernel
theorem dX5_chance_14 : decode cX5_chance 14 = .ok (.invokestatic 78, 3) := by decide +kernel
theorem dX5_chance_17 : decode cX5_chance 17 = .ok (.ifCond .eq 13, 3) := by decide +kernel
theorem dX5_chance_20 : decode cX5_chance 20 = .ok (.iload 4, 2) := by decide +kernel
theorem dX5_chance_22 : decode cX5_chance 22 = .ok (.iconst 0, 1) := by decide +kernel
theorem dX5_chance_23 : decode cX5_chance 23 = .ok (.iconst 1, 1) := by decide +kernel
theorem dX5_chance_24 : decode cX5_chance 24 = .ok (.invokestatic 78, 3) := by decide +kernel
theorem dX5_chance_27 : decode cX5_chance 27 = .ok (.ifCond .ne 7, 3) := by decide +kernel
theorem dX5_chance_30 : decode cX5_chance 30 = .ok (.ldc2_w 170, 3) := by decide +kernel
theorem dX5_chance_33 : decode cX5_chance 33 = .ok (.lreturn, 1) := by decide +kernel
theorem dX5_chance_34 : decode cX5_chance 34 = .ok (.iconst 0, 1) := by decide +kernel
theorem dX5_chance_35 : decode cX5_chance 35 = .ok (.istore 5, 2) := by decide +kernel
theorem dX5_chance_37 : decode cX5_chance 37 = .ok (.iconst 0, 1) := by decide +kernel
theorem dX5_chance_38 : decode cX5_chance 38 = .ok (.istore 6, 2) := by decide +kernel
theorem dX5_chance_40 : decode cX5_chance 40 = .ok (.iload 6, 2) := by decide +kernel
theorem dX5_chance_42 : decode cX5_chance 42 = .ok (.iload_n 2, 1) := by decide +kernel
theorem dX5_chance_43 : decode cX5_chance 43 = .ok (.if_icmp .ge 26, 3) := by decide +kernel
theorem dX5_chance_46 : decode cX5_chance 46 = .ok (.aload_n 0, 1) := by decide +kernel
theorem dX5_chance_47 : decode cX5_chance 47 = .ok (.iload_n 1, 1) := by decide +kernel
theorem dX5_chance_48 : decode cX5_chance 48 = .ok (.iload 6, 2) := by decide +kernel
theorem dX5_chance_50 : decode cX5_chance 50 = .ok (.iadd, 1) := by decide +kernel
theorem dX5_chance_51 : decode cX5_chance 51 = .ok (.bipush 10, 2) := by decide +kernel
theorem dX5_chance_53 : decode cX5_chance 53 = .ok (.invokevirtual 219, 3) := by decide +kernel
theorem dX5_chance_56 : decode cX5_chance 56 = .ok (.iload_n 3, 1) := by decide +kernel
theorem dX5_chance_57 : decode cX5_chance 57 = .ok (.if_icmp .lt 6, 3) := by decide +kernel
theorem dX5_chance_60 : decode cX5_chance 60 = .ok (.iinc 5 1, 3) := by decide +kernel
theorem dX5_chance_63 : decode cX5_chance 63 = .ok (.iinc 6 1, 3) := by decide +kernel
theorem dX5_chance_66 : decode cX5_chance 66 = .ok (.goto (-26), 3) := by decide +kernel
theorem dX5_chance_69 : decode cX5_chance 69 = .ok (.iload 5, 2) := by decide +kernel
theorem dX5_chance_71 : decode cX5_chance 71 = .ok (.iload_n 2, 1) := by decide +kernel
theorem dX5_chance_72 : decode cX5_chance 72 = .ok (.invokestatic 222, 3) := by decide +kernel
theorem dX5_chance_75 : decode cX5_chance 75 = .ok (.istore 6, 2) := by decide +kernel
theorem dX5_chance_77 : decode cX5_chance 77 = .ok (.iload 6, 2) := by decide +kernel
theorem dX5_chance_79 : decode cX5_chance 79 = .ok (.ifCond .gt 7, 3) := by decide +kernel
theorem dX5_chance_82 : decode cX5_chance 82 = .ok (.ldc2_w 170, 3) := by decide +kernel
theorem dX5_chance_85 : decode cX5_chance 85 = .ok (.lreturn, 1) := by decide +kernel
theorem dX5_chance_86 : decode cX5_chance 86 = .ok (.iload 4, 2) := by decide +kernel
theorem dX5_chance_88 : decode cX5_chance 88 = .ok (.ifCond .ne 12, 3) := by decide +kernel
theorem dX5_chance_91 : decode cX5_chance 91 = .ok (.iload 5, 2) := by decide +kernel
theorem dX5_chance_93 : decode cX5_chance 93 = .ok (.iload 6, 2) := by decide +kernel
theorem dX5_chance_95 : decode cX5_chance 95 = .ok (.idiv, 1) := by decide +kernel
theorem dX5_chance_96 : decode cX5_chance 96 = .ok (.i2l, 1) := by decide +kernel
theorem dX5_chance_97 : decode cX5_chance 97 = .ok (.goto 8, 3) := by decide +kernel
theorem dX5_chance_100 : decode cX5_chance 100 = .ok (.iload_n 2, 1) := by decide +kernel
theorem dX5_chance_101 : decode cX5_chance 101 = .ok (.iload 6, 2) := by decide +kernel
theorem dX5_chance_103 : decode cX5_chance 103 = .ok (.idiv, 1) := by decide +kernel
theorem dX5_chance_104 : decode cX5_chance 104 = .ok (.i2l, 1) := by decide +kernel
theorem dX5_chance_105 : decode cX5_chance 105 = .ok (.lreturn, 1) := by decide +kernel
theorem dX5_image_0 : decode cX5_image 0 = .ok (.aload_n 0, 1) := by decide +kernel
theorem dX5_image_1 : decode cX5_image 1 = .ok (.getfield 41, 3) := by decide +kernel
theorem dX5_image_4 : decode cX5_image 4 = .ok (.aload_n 0, 1) := by decide +kernel
theorem dX5_image_5 : decode cX5_image 5 = .ok (.getfield 34, 3) := by decide +kernel
theorem dX5_image_8 : decode cX5_image 8 = .ok (.invokevirtual 151, 3) := by decide +kernel
theorem dX5_image_11 : decode cX5_image 11 = .ok (.aload_n 0, 1) := by decide +kernel
theorem dX5_image_12 : decode cX5_image 12 = .ok (.iconst 1, 1) := by decide +kernel
theorem dX5_image_13 : decode cX5_image 13 = .ok (.putfield 225, 3) := by decide +kernel
theorem dX5_image_16 : decode cX5_image 16 = .ok (.aload_n 0, 1) := by decide +kernel
theorem dX5_image_17 : decode cX5_image 17 = .ok (.getfield 34, 3) := by decide +kernel
theorem dX5_image_20 : decode cX5_image 20 = .ok (.getfield 191, 3) := by decide +kernel
theorem dX5_image_23 : decode cX5_image 23 = .ok (.ireturn, 1) := by decide +kernel
theorem dX5_back_0 : decode cX5_back 0 = .ok (.aload_n 0, 1) := by decide +kernel
theorem dX5_back_1 : decode cX5_back 1 = .ok (.getfield 225, 3) := by decide +kernel
theorem dX5_back_4 : decode cX5_back 4 = .ok (.ifCond .ne 6, 3) := by decide +kernel
theorem dX5_back_7 : decode cX5_back 7 = .ok (.bipush (-3), 2) := by decide +kernel
theorem dX5_back_9 : decode cX5_back 9 = .ok (.ireturn, 1) := by decide +kernel
theorem dX5_back_10 : decode cX5_back 10 = .ok (.aload_n 0, 1) := by decide +kernel
theorem dX5_back_11 : decode cX5_back 11 = .ok (.getfield 34, 3) := by decide +kernel
theorem dX5_back_14 : decode cX5_back 14 = .ok (.aload_n 0, 1) := by decide +kernel
theorem dX5_back_15 : decode cX5_back 15 = .ok (.getfield 41, 3) := by decide +kernel
theorem dX5_back_18 : decode cX5_back 18 = .ok (.invokevirtual 151, 3) := by decide +kernel
theorem dX5_back_21 : decode cX5_back 21 = .ok (.aload_n 0, 1) := by decide +kernel
theorem dX5_back_22 : decode cX5_back 22 = .ok (.getfield 34, 3) := by decide +kernel
theorem dX5_back_25 : decode cX5_back 25 = .ok (.getfield 191, 3) := by decide +kernel
theorem dX5_back_28 : decode cX5_back 28 = .ok (.ireturn, 1) := by decide +kernel
theorem dX5_count_0 : decode cX5_count 0 = .ok (.iload_n 1, 1) := by decide +kernel
theorem dX5_count_1 : decode cX5_count 1 = .ok (.tableswitch 84 0 5 #[39, 47, 55, 63, 68, 76], 39) := by decide +kernel
theorem dX5_count_40 : decode cX5_count 40 = .ok (.aload_n 0, 1) := by decide +kernel
theorem dX5_count_41 : decode cX5_count 41 = .ok (.getfield 34, 3) := by decide +kernel
theorem dX5_count_44 : decode cX5_count 44 = .ok (.getfield 191, 3) := by decide +kernel
theorem dX5_count_47 : decode cX5_count 47 = .ok (.ireturn, 1) := by decide +kernel
theorem dX5_count_48 : decode cX5_count 48 = .ok (.aload_n 0, 1) := by decide +kernel
theorem dX5_count_49 : decode cX5_count 49 = .ok (.getfield 34, 3) := by decide +kernel
theorem dX5_count_52 : decode cX5_count 52 = .ok (.getfield 82, 3) := by decide +kernel
theorem dX5_count_55 : decode cX5_count 55 = .ok (.ireturn, 1) := by decide +kernel
theorem dX5_count_56 : decode cX5_count 56 = .ok (.aload_n 0, 1) := by decide +kernel
theorem dX5_count_57 : decode cX5_count 57 = .ok (.getfield 34, 3) := by decide +kernel
theorem dX5_count_60 : decode cX5_count 60 = .ok (.invokevirtual 144, 3) := by decide +kernel
theorem dX5_count_63 : decode cX5_count 63 = .ok (.ireturn, 1) := by decide +kernel
theorem dX5_count_64 : decode cX5_count 64 = .ok (.aload_n 0, 1) := by decide +kernel
theorem dX5_count_65 : decode cX5_count 65 = .ok (.getfield 125, 3) := by decide +kernel
theorem dX5_count_68 : decode cX5_count 68 = .ok (.ireturn, 1) := by decide +kernel
theorem dX5_count_69 : decode cX5_count 69 = .ok (.aload_n 0, 1) := by decide +kernel
theorem dX5_count_70 : decode cX5_count 70 = .ok (.getfield 18, 3) := by decide +kernel
theorem dX5_count_73 : decode cX5_count 73 = .ok (.getfield 131, 3) := by decide +kernel
theorem dX5_count_76 : decode cX5_count 76 = .ok (.ireturn, 1) := by decide +kernel
theorem dX5_count_77 : decode cX5_count 77 = .ok (.aload_n 0, 1) := by decide +kernel
theorem dX5_count_78 : decode cX5_count 78 = .ok (.getfield 34, 3) := by decide +kernel
theorem dX5_count_81 : decode cX5_count 81 = .ok (.getfield 138, 3) := by decide +kernel
theorem dX5_count_84 : decode cX5_count 84 = .ok (.ireturn, 1) := by decide +kernel
theorem dX5_count_85 : decode cX5_count 85 = .ok (.bipush (-2), 2) := by decide +kernel
theorem dX5_count_87 : decode cX5_count 87 = .ok (.ireturn, 1) := by decide +kernel
theorem dX5_choices_0 : decode cX5_choices 0 = .ok (.iload_n 1, 1) := by decide +kernel
theorem dX5_choices_1 : decode cX5_choices 1 = .ok (.tableswitch 53 1 6 #[39, 42, 42, 45, 45, 48], 39) := by decide +kernel
theorem dX5_choices_40 : decode cX5_choices 40 = .ok (.bipush 6, 2) := by decide +kernel
theorem dX5_choices_42 : decode cX5_choices 42 = .ok (.ireturn, 1) := by decide +kernel
theorem dX5_choices_43 : decode cX5_choices 43 = .ok (.bipush 10, 2) := by decide +kernel
theorem dX5_choices_45 : decode cX5_choices 45 = .ok (.ireturn, 1) := by decide +kernel
theorem dX5_choices_46 : decode cX5_choices 46 = .ok (.bipush 100, 2) := by decide +kernel
theorem dX5_choices_48 : decode cX5_choices 48 = .ok (.ireturn, 1) := by decide +kernel
theorem dX5_choices_49 : decode cX5_choices 49 = .ok (.aload_n 0, 1) := by decide +kernel
theorem dX5_choices_50 : decode cX5_choices 50 = .ok (.getfield 125, 3) := by decide +kernel
theorem dX5_choices_53 : decode cX5_choices 53 = .ok (.ireturn, 1) := by decide +kernel
theorem dX5_choices_54 : decode cX5_choices 54 = .ok (.aload_n 0, 1) := by decide +kernel
theorem dX5_choices_55 : decode cX5_choices 55 = .ok (.getfield 34, 3) := by decide +kernel
theorem dX5_choices_58 : decode cX5_choices 58 = .ok (.getfield 191, 3) := by decide +kernel
theorem dX5_choices_61 : decode cX5_choices 61 = .ok (.ireturn, 1) := by decide +kernel
theorem dX5_firstOtherwise_0 : decode cX5_firstOtherwise 0 = .ok (.iload_n 3, 1) := by decide +kernel
theorem dX5_firstOtherwise_1 : decode cX5_firstOtherwise 1 = .ok (.bipush 7, 2) := by decide +kernel
theorem dX5_firstOtherwise_3 : decode cX5_firstOtherwise 3 = .ok (.if_icmp .ne 8, 3) := by decide +kernel
theorem dX5_firstOtherwise_6 : decode cX5_firstOtherwise 6 = .ok (.iload 4, 2) := by decide +kernel
theorem dX5_firstOtherwise_8 : decode cX5_firstOtherwise 8 = .ok (.goto 4, 3) := by decide +kernel
theorem dX5_firstOtherwise_11 : decode cX5_firstOtherwise 11 = .ok (.iload_n 2, 1) := by decide +kernel
theorem dX5_firstOtherwise_12 : decode cX5_firstOtherwise 12 = .ok (.istore 5, 2) := by decide +kernel
theorem dX5_firstOtherwise_14 : decode cX5_firstOtherwise 14 = .ok (.aload_n 0, 1) := by decide +kernel
theorem dX5_firstOtherwise_15 : decode cX5_firstOtherwise 15 = .ok (.getfield 38, 3) := by decide +kernel
theorem dX5_firstOtherwise_18 : decode cX5_firstOtherwise 18 = .ok (.aload_n 0, 1) := by decide +kernel
theorem dX5_firstOtherwise_19 : decode cX5_firstOtherwise 19 = .ok (.getfield 34, 3) := by decide +kernel
theorem dX5_firstOtherwise_22 : decode cX5_firstOtherwise 22 = .ok (.invokevirtual 151, 3) := by decide +kernel
theorem dX5_firstOtherwise_25 : decode cX5_firstOtherwise 25 = .ok (.iload_n 3, 1) := by decide +kernel
theorem dX5_firstOtherwise_26 : decode cX5_firstOtherwise 26 = .ok (.tableswitch 104 1 6 #[38, 52, 66, 78, 78, 92], 38) := by decide +kernel
theorem dX5_firstOtherwise_64 : decode cX5_firstOtherwise 64 = .ok (.aload_n 0, 1) := by decide +kernel
theorem dX5_firstOtherwise_65 : decode cX5_firstOtherwise 65 = .ok (.getfield 38, 3) := by decide +kernel
theorem dX5_firstOtherwise_68 : decode cX5_firstOtherwise 68 = .ok (.getfield 110, 3) := by decide +kernel
theorem dX5_firstOtherwise_71 : decode cX5_firstOtherwise 71 = .ok (.iload_n 2, 1) := by decide +kernel
theorem dX5_firstOtherwise_72 : decode cX5_firstOtherwise 72 = .ok (.iload 4, 2) := by decide +kernel
theorem dX5_firstOtherwise_74 : decode cX5_firstOtherwise 74 = .ok (.iastore, 1) := by decide +kernel
theorem dX5_firstOtherwise_75 : decode cX5_firstOtherwise 75 = .ok (.goto 55, 3) := by decide +kernel
theorem dX5_firstOtherwise_78 : decode cX5_firstOtherwise 78 = .ok (.aload_n 0, 1) := by decide +kernel
theorem dX5_firstOtherwise_79 : decode cX5_firstOtherwise 79 = .ok (.getfield 38, 3) := by decide +kernel
theorem dX5_firstOtherwise_82 : decode cX5_firstOtherwise 82 = .ok (.getfield 89, 3) := by decide +kernel
theorem dX5_firstOtherwise_85 : decode cX5_firstOtherwise 85 = .ok (.iload_n 2, 1) := by decide +kernel
theorem dX5_firstOtherwise_86 : decode cX5_firstOtherwise 86 = .ok (.iload 4, 2) := by decide +kernel
theorem dX5_firstOtherwise_88 : decode cX5_firstOtherwise 88 = .ok (.iastore, 1) := by decide +kernel
theorem dX5_firstOtherwise_89 : decode cX5_firstOtherwise 89 = .ok (.goto 41, 3) := by decide +kernel
theorem dX5_firstOtherwise_92 : decode cX5_firstOtherwise 92 = .ok (.aload_n 0, 1) := by decide +kernel
theorem dX5_firstOtherwise_93 : decode cX5_firstOtherwise 93 = .ok (.getfield 38, 3) := by decide +kernel
theorem dX5_firstOtherwise_96 : decode cX5_firstOtherwise 96 = .ok (.iload 4, 2) := by decide +kernel
theorem dX5_firstOtherwise_98 : decode cX5_firstOtherwise 98 = .ok (.putfield 86, 3) := by decide +kernel
theorem dX5_firstOtherwise_101 : decode cX5_firstOtherwise 101 = .ok (.goto 29, 3) := by decide +kernel
theorem dX5_firstOtherwise_104 : decode cX5_firstOtherwise 104 = .ok (.aload_n 0, 1) := by decide +kernel
theorem dX5_firstOtherwise_105 : decode cX5_firstOtherwise 105 = .ok (.getfield 38, 3) := by decide +kernel
theorem dX5_firstOtherwise_108 : decode cX5_firstOtherwise 108 = .ok (.getfield 93, 3) := by decide +kernel
theorem dX5_firstOtherwise_111 : decode cX5_firstOtherwise 111 = .ok (.iload_n 2, 1) := by decide +kernel
theorem dX5_firstOtherwise_112 : decode cX5_firstOtherwise 112 = .ok (.iload 4, 2) := by decide +kernel
theorem dX5_firstOtherwise_114 : decode cX5_firstOtherwise 114 = .ok (.iastore, 1) := by decide +kernel
theorem dX5_firstOtherwise_115 : decode cX5_firstOtherwise 115 = .ok (.goto 15, 3) := by decide +kernel
theorem dX5_firstOtherwise_118 : decode cX5_firstOtherwise 118 = .ok (.aload_n 0, 1) := by decide +kernel
theorem dX5_firstOtherwise_119 : decode cX5_firstOtherwise 119 = .ok (.getfield 38, 3) := by decide +kernel
theorem dX5_firstOtherwise_122 : decode cX5_firstOtherwise 122 = .ok (.iload 4, 2) := by decide +kernel
theorem dX5_firstOtherwise_124 : decode cX5_firstOtherwise 124 = .ok (.putfield 138, 3) := by decide +kernel
theorem dX5_firstOtherwise_127 : decode cX5_firstOtherwise 127 = .ok (.goto 3, 3) := by decide +kernel
theorem dX5_firstOtherwise_130 : decode cX5_firstOtherwise 130 = .ok (.iconst 0, 1) := by decide +kernel
theorem dX5_firstOtherwise_131 : decode cX5_firstOtherwise 131 = .ok (.istore 6, 2) := by decide +kernel
theorem dX5_firstOtherwise_133 : decode cX5_firstOtherwise 133 = .ok (.iload 6, 2) := by decide +kernel
theorem dX5_firstOtherwise_135 : decode cX5_firstOtherwise 135 = .ok (.aload_n 1, 1) := by decide +kernel
theorem dX5_firstOtherwise_136 : decode cX5_firstOtherwise 136 = .ok (.getfield 205, 3) := by decide +kernel
theorem dX5_firstOtherwise_139 : decode cX5_firstOtherwise 139 = .ok (.if_icmp .ge 37, 3) := by decide +kernel
theorem dX5_firstOtherwise_142 : decode cX5_firstOtherwise 142 = .ok (.aload_n 0, 1) := by decide +kernel
theorem dX5_firstOtherwise_143 : decode cX5_firstOtherwise 143 = .ok (.getfield 38, 3) := by decide +kernel
theorem dX5_firstOtherwise_146 : decode cX5_firstOtherwise 146 = .ok (.iload 5, 2) := by decide +kernel
theorem dX5_firstOtherwise_148 : decode cX5_firstOtherwise 148 = .ok (.invokevirtual 122, 3) := by decide +kernel
theorem dX5_firstOtherwise_151 : decode cX5_firstOtherwise 151 = .ok (.aload_n 1, 1) := by decide +kernel
theorem dX5_firstOtherwise_152 : decode cX5_firstOtherwise 152 = .ok (.iload 6, 2) := by decide +kernel
theorem dX5_firstOtherwise_154 : decode cX5_firstOtherwise 154 = .ok (.invokevirtual 229, 3) := by decide +kernel
theorem dX5_firstOtherwise_157 : decode cX5_firstOtherwise 157 = .ok (.if_icmp .eq 6, 3) := by decide +kernel
theorem dX5_firstOtherwise_160 : decode cX5_firstOtherwise 160 = .ok (.iload 6, 2) := by decide +kernel
theorem dX5_firstOtherwise_162 : decode cX5_firstOtherwise 162 = .ok (.ireturn, 1) := by decide +kernel
theorem dX5_firstOtherwise_163 : decode cX5_firstOtherwise 163 = .ok (.aload_n 0, 1) := by decide +kernel
theorem dX5_firstOtherwise_164 : decode cX5_firstOtherwise 164 = .ok (.getfield 38, 3) := by decide +kernel
theorem dX5_firstOtherwise_167 : decode cX5_firstOtherwise 167 = .ok (.invokevirtual 141, 3) := by decide +kernel
theorem dX5_firstOtherwise_170 : decode cX5_firstOtherwise 170 = .ok (.iinc 6 1, 3) := by decide +kernel
theorem dX5_firstOtherwise_173 : decode cX5_firstOtherwise 173 = .ok (.goto (-40), 3) := by decide +kernel
theorem dX5_firstOtherwise_176 : decode cX5_firstOtherwise 176 = .ok (.iconst (-1), 1) := by decide +kernel
theorem dX5_firstOtherwise_177 : decode cX5_firstOtherwise 177 = .ok (.ireturn, 1) := by decide +kernel
theorem dX5_clogsBySeed_0 : decode cX5_clogsBySeed 0 = .ok (.iload_n 1, 1) := by decide +kernel
theorem dX5_clogsBySeed_1 : decode cX5_clogsBySeed 1 = .ok (.istore_n 3, 1) := by decide +kernel
theorem dX5_clogsBySeed_2 : decode cX5_clogsBySeed 2 = .ok (.iconst 0, 1) := by decide +kernel
theorem dX5_clogsBySeed_3 : decode cX5_clogsBySeed 3 = .ok (.istore 4, 2) := by decide +kernel
theorem dX5_clogsBySeed_5 : decode cX5_clogsBySeed 5 = .ok (.aload_n 0, 1) := by decide +kernel
theorem dX5_clogsBySeed_6 : decode cX5_clogsBySeed 6 = .ok (.getfield 38, 3) := by decide +kernel
theorem dX5_clogsBySeed_9 : decode cX5_clogsBySeed 9 = .ok (.aload_n 0, 1) := by decide +kernel
theorem dX5_clogsBySeed_10 : decode cX5_clogsBySeed 10 = .ok (.getfield 34, 3) := by decide +kernel
theorem dX5_clogsBySeed_13 : decode cX5_clogsBySeed 13 = .ok (.invokevirtual 151, 3) := by decide +kernel
theorem dX5_clogsBySeed_16 : decode cX5_clogsBySeed 16 = .ok (.iconst 0, 1) := by decide +kernel
theorem dX5_clogsBySeed_17 : decode cX5_clogsBySeed 17 = .ok (.istore 5, 2) := by decide +kernel
theorem dX5_clogsBySeed_19 : decode cX5_clogsBySeed 19 = .ok (.iload 5, 2) := by decide +kernel
theorem dX5_clogsBySeed_21 : decode cX5_clogsBySeed 21 = .ok (.iload_n 2, 1) := by decide +kernel
theorem dX5_clogsBySeed_22 : decode cX5_clogsBySeed 22 = .ok (.if_icmp .ge 54, 3) := by decide +kernel
theorem dX5_clogsBySeed_25 : decode cX5_clogsBySeed 25 = .ok (.iload_n 3, 1) := by decide +kernel
theorem dX5_clogsBySeed_26 : decode cX5_clogsBySeed 26 = .ok (.ldc 232, 2) := by decide +kernel
theorem dX5_clogsBySeed_28 : decode cX5_clogsBySeed 28 = .ok (.imul, 1) := by decide +kernel
theorem dX5_clogsBySeed_29 : decode cX5_clogsBySeed 29 = .ok (.sipush 12345, 3) := by decide +kernel
theorem dX5_clogsBySeed_32 : decode cX5_clogsBySeed 32 = .ok (.iadd, 1) := by decide +kernel
theorem dX5_clogsBySeed_33 : decode cX5_clogsBySeed 33 = .ok (.istore_n 3, 1) := by decide +kernel
theorem dX5_clogsBySeed_34 : decode cX5_clogsBySeed 34 = .ok (.aload_n 0, 1) := by decide +kernel
theorem dX5_clogsBySeed_35 : decode cX5_clogsBySeed 35 = .ok (.getfield 38, 3) := by decide +kernel
theorem dX5_clogsBySeed_38 : decode cX5_clogsBySeed 38 = .ok (.iload_n 3, 1) := by decide +kernel
theorem dX5_clogsBySeed_39 : decode cX5_clogsBySeed 39 = .ok (.bipush 9, 2) := by decide +kernel
theorem dX5_clogsBySeed_41 : decode cX5_clogsBySeed 41 = .ok (.iushr, 1) := by decide +kernel
theorem dX5_clogsBySeed_42 : decode cX5_clogsBySeed 42 = .ok (.bipush 10, 2) := by decide +kernel
theorem dX5_clogsBySeed_44 : decode cX5_clogsBySeed 44 = .ok (.irem, 1) := by decide +kernel
theorem dX5_clogsBySeed_45 : decode cX5_clogsBySeed 45 = .ok (.putfield 86, 3) := by decide +kernel
theorem dX5_clogsBySeed_48 : decode cX5_clogsBySeed 48 = .ok (.aload_n 0, 1) := by decide +kernel
theorem dX5_clogsBySeed_49 : decode cX5_clogsBySeed 49 = .ok (.getfield 38, 3) := by decide +kernel
theorem dX5_clogsBySeed_52 : decode cX5_clogsBySeed 52 = .ok (.invokevirtual 141, 3) := by decide +kernel
theorem dX5_clogsBySeed_55 : decode cX5_clogsBySeed 55 = .ok (.iload 4, 2) := by decide +kernel
theorem dX5_clogsBySeed_57 : decode cX5_clogsBySeed 57 = .ok (.aload_n 0, 1) := by decide +kernel
theorem dX5_clogsBySeed_58 : decode cX5_clogsBySeed 58 = .ok (.getfield 38, 3) := by decide +kernel
theorem dX5_clogsBySeed_61 : decode cX5_clogsBySeed 61 = .ok (.invokevirtual 161, 3) := by decide +kernel
theorem dX5_clogsBySeed_64 : decode cX5_clogsBySeed 64 = .ok (.invokestatic 233, 3) := by decide +kernel
theorem dX5_clogsBySeed_67 : decode cX5_clogsBySeed 67 = .ok (.iadd, 1) := by decide +kernel
theorem dX5_clogsBySeed_68 : decode cX5_clogsBySeed 68 = .ok (.istore 4, 2) := by decide +kernel
theorem dX5_clogsBySeed_70 : decode cX5_clogsBySeed 70 = .ok (.iinc 5 1, 3) := by decide +kernel
theorem dX5_clogsBySeed_73 : decode cX5_clogsBySeed 73 = .ok (.goto (-54), 3) := by decide +kernel
theorem dX5_clogsBySeed_76 : decode cX5_clogsBySeed 76 = .ok (.iload 4, 2) := by decide +kernel
theorem dX5_clogsBySeed_78 : decode cX5_clogsBySeed 78 = .ok (.ireturn, 1) := by decide +kernel
theorem dX5_greatestShared_0 : decode cX5_greatestShared 0 = .ok (.iconst 1, 1) := by decide +kernel
theorem dX5_greatestShared_1 : decode cX5_greatestShared 1 = .ok (.istore_n 2, 1) := by decide +kernel
theorem dX5_greatestShared_2 : decode cX5_greatestShared 2 = .ok (.iconst 2, 1) := by decide +kernel
theorem dX5_greatestShared_3 : decode cX5_greatestShared 3 = .ok (.istore_n 3, 1) := by decide +kernel
theorem dX5_greatestShared_4 : decode cX5_greatestShared 4 = .ok (.iload_n 3, 1) := by decide +kernel
theorem dX5_greatestShared_5 : decode cX5_greatestShared 5 = .ok (.iload_n 1, 1) := by decide +kernel
theorem dX5_greatestShared_6 : decode cX5_greatestShared 6 = .ok (.if_icmp .gt 23, 3) := by decide +kernel
theorem dX5_greatestShared_9 : decode cX5_greatestShared 9 = .ok (.iload_n 0, 1) := by decide +kernel
theorem dX5_greatestShared_10 : decode cX5_greatestShared 10 = .ok (.iload_n 3, 1) := by decide +kernel
theorem dX5_greatestShared_11 : decode cX5_greatestShared 11 = .ok (.irem, 1) := by decide +kernel
theorem dX5_greatestShared_12 : decode cX5_greatestShared 12 = .ok (.ifCond .ne 11, 3) := by decide +kernel
theorem dX5_greatestShared_15 : decode cX5_greatestShared 15 = .ok (.iload_n 1, 1) := by decide +kernel
theorem dX5_greatestShared_16 : decode cX5_greatestShared 16 = .ok (.iload_n 3, 1) := by decide +kernel
theorem dX5_greatestShared_17 : decode cX5_greatestShared 17 = .ok (.irem, 1) := by decide +kernel
theorem dX5_greatestShared_18 : decode cX5_greatestShared 18 = .ok (.ifCond .ne 5, 3) := by decide +kernel
theorem dX5_greatestShared_21 : decode cX5_greatestShared 21 = .ok (.iload_n 3, 1) := by decide +kernel
theorem dX5_greatestShared_22 : decode cX5_greatestShared 22 = .ok (.istore_n 2, 1) := by decide +kernel
theorem dX5_greatestShared_23 : decode cX5_greatestShared 23 = .ok (.iinc 3 1, 3) := by decide +kernel
theorem dX5_greatestShared_26 : decode cX5_greatestShared 26 = .ok (.goto (-22), 3) := by decide +kernel
theorem dX5_greatestShared_29 : decode cX5_greatestShared 29 = .ok (.iload_n 2, 1) := by decide +kernel
theorem dX5_greatestShared_30 : decode cX5_greatestShared 30 = .ok (.ireturn, 1) := by decide +kernel
theorem dX5_sheet_0 : decode cX5_sheet 0 = .ok (.iload_n 1, 1) := by decide +kernel
theorem dX5_sheet_1 : decode cX5_sheet 1 = .ok (.iconst 0, 1) := by decide +kernel
theorem dX5_sheet_2 : decode cX5_sheet 2 = .ok (.iconst 3, 1) := by decide +kernel
theorem dX5_sheet_3 : decode cX5_sheet 3 = .ok (.invokestatic 78, 3) := by decide +kernel
theorem dX5_sheet_6 : decode cX5_sheet 6 = .ok (.ifCond .eq 12, 3) := by decide +kernel
theorem dX5_sheet_9 : decode cX5_sheet 9 = .ok (.iload_n 2, 1) := by decide +kernel
theorem dX5_sheet_10 : decode cX5_sheet 10 = .ok (.iconst (-1), 1) := by decide +kernel
theorem dX5_sheet_11 : decode cX5_sheet 11 = .ok (.iconst 2, 1) := by decide +kernel
theorem dX5_sheet_12 : decode cX5_sheet 12 = .ok (.invokestatic 78, 3) := by decide +kernel
theorem dX5_sheet_15 : decode cX5_sheet 15 = .ok (.ifCond .ne 6, 3) := by decide +kernel
theorem dX5_sheet_18 : decode cX5_sheet 18 = .ok (.bipush (-2), 2) := by decide +kernel
theorem dX5_sheet_20 : decode cX5_sheet 20 = .ok (.ireturn, 1) := by decide +kernel
theorem dX5_sheet_21 : decode cX5_sheet 21 = .ok (.iload_n 2, 1) := by decide +kernel
theorem dX5_sheet_22 : decode cX5_sheet 22 = .ok (.iconst (-1), 1) := by decide +kernel
theorem dX5_sheet_23 : decode cX5_sheet 23 = .ok (.if_icmp .ne 16, 3) := by decide +kernel
theorem dX5_sheet_26 : decode cX5_sheet 26 = .ok (.aload_n 0, 1) := by decide +kernel
theorem dX5_sheet_27 : decode cX5_sheet 27 = .ok (.getfield 46, 3) := by decide +kernel
theorem dX5_sheet_30 : decode cX5_sheet 30 = .ok (.iload_n 1, 1) := by decide +kernel
theorem dX5_sheet_31 : decode cX5_sheet 31 = .ok (.aaload, 1) := by decide +kernel
theorem dX5_sheet_32 : decode cX5_sheet 32 = .ok (.iconst (-1), 1) := by decide +kernel
theorem dX5_sheet_33 : decode cX5_sheet 33 = .ok (.iconst 0, 1) := by decide +kernel
theorem dX5_sheet_34 : decode cX5_sheet 34 = .ok (.invokevirtual 213, 3) := by decide +kernel
theorem dX5_sheet_37 : decode cX5_sheet 37 = .ok (.iconst 1, 1) := by decide +kernel
theorem dX5_sheet_38 : decode cX5_sheet 38 = .ok (.ireturn, 1) := by decide +kernel
theorem dX5_sheet_39 : decode cX5_sheet 39 = .ok (.iload_n 3, 1) := by decide +kernel
theorem dX5_sheet_40 : decode cX5_sheet 40 = .ok (.bipush 40, 2) := by decide +kernel
theorem dX5_sheet_42 : decode cX5_sheet 42 = .ok (.if_icmp .le 6, 3) := by decide +kernel
theorem dX5_sheet_45 : decode cX5_sheet 45 = .ok (.bipush (-2), 2) := by decide +kernel
theorem dX5_sheet_47 : decode cX5_sheet 47 = .ok (.ireturn, 1) := by decide +kernel
theorem dX5_sheet_48 : decode cX5_sheet 48 = .ok (.iload_n 3, 1) := by decide +kernel
theorem dX5_sheet_49 : decode cX5_sheet 49 = .ok (.ifCond .ge 6, 3) := by decide +kernel
theorem dX5_sheet_52 : decode cX5_sheet 52 = .ok (.bipush (-14), 2) := by decide +kernel
theorem dX5_sheet_54 : decode cX5_sheet 54 = .ok (.ireturn, 1) := by decide +kernel
theorem dX5_sheet_55 : decode cX5_sheet 55 = .ok (.aload_n 0, 1) := by decide +kernel
theorem dX5_sheet_56 : decode cX5_sheet 56 = .ok (.getfield 46, 3) := by decide +kernel
theorem dX5_sheet_59 : decode cX5_sheet 59 = .ok (.iload_n 1, 1) := by decide +kernel
theorem dX5_sheet_60 : decode cX5_sheet 60 = .ok (.aaload, 1) := by decide +kernel
theorem dX5_sheet_61 : decode cX5_sheet 61 = .ok (.iload_n 2, 1) := by decide +kernel
theorem dX5_sheet_62 : decode cX5_sheet 62 = .ok (.iload_n 3, 1) := by decide +kernel
theorem dX5_sheet_63 : decode cX5_sheet 63 = .ok (.invokevirtual 213, 3) := by decide +kernel
theorem dX5_sheet_66 : decode cX5_sheet 66 = .ok (.iconst 1, 1) := by decide +kernel
theorem dX5_sheet_67 : decode cX5_sheet 67 = .ok (.ireturn, 1) := by decide +kernel
theorem dX5_cell_0 : decode cX5_cell 0 = .ok (.iload_n 1, 1) := by decide +kernel
theorem dX5_cell_1 : decode cX5_cell 1 = .ok (.iconst 0, 1) := by decide +kernel
theorem dX5_cell_2 : decode cX5_cell 2 = .ok (.iconst 3, 1) := by decide +kernel
theorem dX5_cell_3 : decode cX5_cell 3 = .ok (.invokestatic 78, 3) := by decide +kernel
theorem dX5_cell_6 : decode cX5_cell 6 = .ok (.ifCond .ne 6, 3) := by decide +kernel
theorem dX5_cell_9 : decode cX5_cell 9 = .ok (.bipush (-2), 2) := by decide +kernel
theorem dX5_cell_11 : decode cX5_cell 11 = .ok (.ireturn, 1) := by decide +kernel
theorem dX5_cell_12 : decode cX5_cell 12 = .ok (.aload_n 0, 1) := by decide +kernel
theorem dX5_cell_13 : decode cX5_cell 13 = .ok (.getfield 46, 3) := by decide +kernel
theorem dX5_cell_16 : decode cX5_cell 16 = .ok (.iload_n 1, 1) := by decide +kernel
theorem dX5_cell_17 : decode cX5_cell 17 = .ok (.aaload, 1) := by decide +kernel
theorem dX5_cell_18 : decode cX5_cell 18 = .ok (.astore 4, 2) := by decide +kernel
theorem dX5_cell_20 : decode cX5_cell 20 = .ok (.aload 4, 2) := by decide +kernel
theorem dX5_cell_22 : decode cX5_cell 22 = .ok (.getfield 202, 3) := by decide +kernel
theorem dX5_cell_25 : decode cX5_cell 25 = .ok (.iconst (-1), 1) := by decide +kernel
theorem dX5_cell_26 : decode cX5_cell 26 = .ok (.if_icmp .ne 6, 3) := by decide +kernel
theorem dX5_cell_29 : decode cX5_cell 29 = .ok (.bipush (-11), 2) := by decide +kernel
theorem dX5_cell_31 : decode cX5_cell 31 = .ok (.ireturn, 1) := by decide +kernel
theorem dX5_cell_32 : decode cX5_cell 32 = .ok (.iload_n 2, 1) := by decide +kernel
theorem dX5_cell_33 : decode cX5_cell 33 = .ok (.iconst 0, 1) := by decide +kernel
theorem dX5_cell_34 : decode cX5_cell 34 = .ok (.aload 4, 2) := by decide +kernel
theorem dX5_cell_36 : decode cX5_cell 36 = .ok (.getfield 205, 3) := by decide +kernel
theorem dX5_cell_39 : decode cX5_cell 39 = .ok (.iconst 1, 1) := by decide +kernel
theorem dX5_cell_40 : decode cX5_cell 40 = .ok (.isub, 1) := by decide +kernel
theorem dX5_cell_41 : decode cX5_cell 41 = .ok (.invokestatic 78, 3) := by decide +kernel
theorem dX5_cell_44 : decode cX5_cell 44 = .ok (.ifCond .ne 6, 3) := by decide +kernel
theorem dX5_cell_47 : decode cX5_cell 47 = .ok (.bipush (-12), 2) := by decide +kernel
theorem dX5_cell_49 : decode cX5_cell 49 = .ok (.ireturn, 1) := by decide +kernel
theorem dX5_cell_50 : decode cX5_cell 50 = .ok (.aload 4, 2) := by decide +kernel
theorem dX5_cell_52 : decode cX5_cell 52 = .ok (.iload_n 2, 1) := by decide +kernel
theorem dX5_cell_53 : decode cX5_cell 53 = .ok (.iload_n 3, 1) := by decide +kernel
theorem dX5_cell_54 : decode cX5_cell 54 = .ok (.invokevirtual 216, 3) := by decide +kernel
theorem dX5_cell_57 : decode cX5_cell 57 = .ok (.iconst 1, 1) := by decide +kernel
theorem dX5_cell_58 : decode cX5_cell 58 = .ok (.ireturn, 1) := by decide +kernel
theorem dX5_copy_0 : decode cX5_copy 0 = .ok (.iload_n 1, 1) := by decide +kernel
theorem dX5_copy_1 : decode cX5_copy 1 = .ok (.iconst 0, 1) := by decide +kernel
theorem dX5_copy_2 : decode cX5_copy 2 = .ok (.iconst 3, 1) := by decide +kernel
theorem dX5_copy_3 : decode cX5_copy 3 = .ok (.invokestatic 78, 3) := by decide +kernel
theorem dX5_copy_6 : decode cX5_copy 6 = .ok (.ifCond .eq 12, 3) := by decide +kernel
theorem dX5_copy_9 : decode cX5_copy 9 = .ok (.iload_n 3, 1) := by decide +kernel
theorem dX5_copy_10 : decode cX5_copy 10 = .ok (.iconst 0, 1) := by decide +kernel
theorem dX5_copy_11 : decode cX5_copy 11 = .ok (.iconst 3, 1) := by decide +kernel
theorem dX5_copy_12 : decode cX5_copy 12 = .ok (.invokestatic 78, 3) := by decide +kernel
theorem dX5_copy_15 : decode cX5_copy 15 = .ok (.ifCond .ne 6, 3) := by decide +kernel
theorem dX5_copy_18 : decode cX5_copy 18 = .ok (.bipush (-2), 2) := by decide +kernel
theorem dX5_copy_20 : decode cX5_copy 20 = .ok (.ireturn, 1) := by decide +kernel
theorem dX5_copy_21 : decode cX5_copy 21 = .ok (.aload_n 0, 1) := by decide +kernel
theorem dX5_copy_22 : decode cX5_copy 22 = .ok (.getfield 46, 3) := by decide +kernel
theorem dX5_copy_25 : decode cX5_copy 25 = .ok (.iload_n 1, 1) := by decide +kernel
theorem dX5_copy_26 : decode cX5_copy 26 = .ok (.aaload, 1) := by decide +kernel
theorem dX5_copy_27 : decode cX5_copy 27 = .ok (.astore 6, 2) := by decide +kernel
theorem dX5_copy_29 : decode cX5_copy 29 = .ok (.aload_n 0, 1) := by decide +kernel
theorem dX5_copy_30 : decode cX5_copy 30 = .ok (.getfield 46, 3) := by decide +kernel
theorem dX5_copy_33 : decode cX5_copy 33 = .ok (.iload_n 3, 1) := by decide +kernel
theorem dX5_copy_34 : decode cX5_copy 34 = .ok (.aaload, 1) := by decide +kernel
theorem dX5_copy_35 : decode cX5_copy 35 = .ok (.astore 7, 2) := by decide +kernel
theorem dX5_copy_37 : decode cX5_copy 37 = .ok (.aload 6, 2) := by decide +kernel
theorem dX5_copy_39 : decode cX5_copy 39 = .ok (.getfield 202, 3) := by decide +kernel
theorem dX5_copy_42 : decode cX5_copy 42 = .ok (.iconst (-1), 1) := by decide +kernel
theorem dX5_copy_43 : decode cX5_copy 43 = .ok (.if_icmp .eq 12, 3) := by decide +kernel
theorem dX5_copy_46 : decode cX5_copy 46 = .ok (.aload 7, 2) := by decide +kernel
theorem dX5_copy_48 : decode cX5_copy 48 = .ok (.getfield 202, 3) := by decide +kernel
theorem dX5_copy_51 : decode cX5_copy 51 = .ok (.iconst (-1), 1) := by decide +kernel
theorem dX5_copy_52 : decode cX5_copy 52 = .ok (.if_icmp .ne 6, 3) := by decide +kernel
theorem dX5_copy_55 : decode cX5_copy 55 = .ok (.bipush (-11), 2) := by decide +kernel
theorem dX5_copy_57 : decode cX5_copy 57 = .ok (.ireturn, 1) := by decide +kernel
theorem dX5_copy_58 : decode cX5_copy 58 = .ok (.aload 6, 2) := by decide +kernel
theorem dX5_copy_60 : decode cX5_copy 60 = .ok (.getfield 202, 3) := by decide +kernel
theorem dX5_copy_63 : decode cX5_copy 63 = .ok (.aload 7, 2) := by decide +kernel
theorem dX5_copy_65 : decode cX5_copy 65 = .ok (.getfield 202, 3) := by decide +kernel
theorem dX5_copy_68 : decode cX5_copy 68 = .ok (.if_icmp .eq 6, 3) := by decide +kernel
theorem dX5_copy_71 : decode cX5_copy 71 = .ok (.bipush (-13), 2) := by decide +kernel
theorem dX5_copy_73 : decode cX5_copy 73 = .ok (.ireturn, 1) := by decide +kernel
theorem dX5_copy_74 : decode cX5_copy 74 = .ok (.aload 6, 2) := by decide +kernel
theorem dX5_copy_76 : decode cX5_copy 76 = .ok (.iload_n 2, 1) := by decide +kernel
theorem dX5_copy_77 : decode cX5_copy 77 = .ok (.iload 5, 2) := by decide +kernel
theorem dX5_copy_79 : decode cX5_copy 79 = .ok (.invokevirtual 238, 3) := by decide +kernel
theorem dX5_copy_82 : decode cX5_copy 82 = .ok (.ifCond .eq 15, 3) := by decide +kernel
theorem dX5_copy_85 : decode cX5_copy 85 = .ok (.aload 7, 2) := by decide +kernel
theorem dX5_copy_87 : decode cX5_copy 87 = .ok (.iload 4, 2) := by decide +kernel
theorem dX5_copy_89 : decode cX5_copy 89 = .ok (.iload 5, 2) := by decide +kernel
theorem dX5_copy_91 : decode cX5_copy 91 = .ok (.invokevirtual 238, 3) := by decide +kernel
theorem dX5_copy_94 : decode cX5_copy 94 = .ok (.ifCond .ne 6, 3) := by decide +kernel
theorem dX5_copy_97 : decode cX5_copy 97 = .ok (.bipush (-12), 2) := by decide +kernel
theorem dX5_copy_99 : decode cX5_copy 99 = .ok (.ireturn, 1) := by decide +kernel
theorem dX5_copy_100 : decode cX5_copy 100 = .ok (.aload 6, 2) := by decide +kernel
theorem dX5_copy_102 : decode cX5_copy 102 = .ok (.getfield 242, 3) := by decide +kernel
theorem dX5_copy_105 : decode cX5_copy 105 = .ok (.iload_n 2, 1) := by decide +kernel
theorem dX5_copy_106 : decode cX5_copy 106 = .ok (.aload 7, 2) := by decide +kernel
theorem dX5_copy_108 : decode cX5_copy 108 = .ok (.getfield 242, 3) := by decide +kernel
theorem dX5_copy_111 : decode cX5_copy 111 = .ok (.iload 4, 2) := by decide +kernel
theorem dX5_copy_113 : decode cX5_copy 113 = .ok (.iload 5, 2) := by decide +kernel
theorem dX5_copy_115 : decode cX5_copy 115 = .ok (.invokestatic 245, 3) := by decide +kernel
theorem dX5_copy_118 : decode cX5_copy 118 = .ok (.iload 5, 2) := by decide +kernel
theorem dX5_copy_120 : decode cX5_copy 120 = .ok (.ireturn, 1) := by decide +kernel
theorem dX5_people_0 : decode cX5_people 0 = .ok (.iload_n 1, 1) := by decide +kernel
theorem dX5_people_1 : decode cX5_people 1 = .ok (.iconst 0, 1) := by decide +kernel
theorem dX5_people_2 : decode cX5_people 2 = .ok (.iconst 3, 1) := by decide +kernel
theorem dX5_people_3 : decode cX5_people 3 = .ok (.invokestatic 78, 3) := by decide +kernel
theorem dX5_people_6 : decode cX5_people 6 = .ok (.ifCond .eq 22, 3) := by decide +kernel
theorem dX5_people_9 : decode cX5_people 9 = .ok (.iload_n 2, 1) := by decide +kernel
theorem dX5_people_10 : decode cX5_people 10 = .ok (.iconst 0, 1) := by decide +kernel
theorem dX5_people_11 : decode cX5_people 11 = .ok (.iconst 2, 1) := by decide +kernel
theorem dX5_people_12 : decode cX5_people 12 = .ok (.invokestatic 78, 3) := by decide +kernel
theorem dX5_people_15 : decode cX5_people 15 = .ok (.ifCond .eq 13, 3) := by decide +kernel
theorem dX5_people_18 : decode cX5_people 18 = .ok (.iload 4, 2) := by decide +kernel
theorem dX5_people_20 : decode cX5_people 20 = .ok (.iconst 0, 1) := by decide +kernel
theorem dX5_people_21 : decode cX5_people 21 = .ok (.iconst 5, 1) := by decide +kernel
theorem dX5_people_22 : decode cX5_people 22 = .ok (.invokestatic 78, 3) := by decide +kernel
theorem dX5_people_25 : decode cX5_people 25 = .ok (.ifCond .ne 6, 3) := by decide +kernel
theorem dX5_people_28 : decode cX5_people 28 = .ok (.bipush (-2), 2) := by decide +kernel
theorem dX5_people_30 : decode cX5_people 30 = .ok (.ireturn, 1) := by decide +kernel
theorem dX5_people_31 : decode cX5_people 31 = .ok (.aload_n 0, 1) := by decide +kernel
theorem dX5_people_32 : decode cX5_people 32 = .ok (.getfield 46, 3) := by decide +kernel
theorem dX5_people_35 : decode cX5_people 35 = .ok (.iload_n 1, 1) := by decide +kernel
theorem dX5_people_36 : decode cX5_people 36 = .ok (.aaload, 1) := by decide +kernel
theorem dX5_people_37 : decode cX5_people 37 = .ok (.astore 5, 2) := by decide +kernel
theorem dX5_people_39 : decode cX5_people 39 = .ok (.aload 5, 2) := by decide +kernel
theorem dX5_people_41 : decode cX5_people 41 = .ok (.getfield 202, 3) := by decide +kernel
theorem dX5_people_44 : decode cX5_people 44 = .ok (.iconst (-1), 1) := by decide +kernel
theorem dX5_people_45 : decode cX5_people 45 = .ok (.if_icmp .ne 6, 3) := by decide +kernel
theorem dX5_people_48 : decode cX5_people 48 = .ok (.bipush (-11), 2) := by decide +kernel
theorem dX5_people_50 : decode cX5_people 50 = .ok (.ireturn, 1) := by decide +kernel
theorem dX5_people_51 : decode cX5_people 51 = .ok (.aload 5, 2) := by decide +kernel
theorem dX5_people_53 : decode cX5_people 53 = .ok (.getfield 202, 3) := by decide +kernel
theorem dX5_people_56 : decode cX5_people 56 = .ok (.iload_n 2, 1) := by decide +kernel
theorem dX5_people_57 : decode cX5_people 57 = .ok (.if_icmp .eq 6, 3) := by decide +kernel
theorem dX5_people_60 : decode cX5_people 60 = .ok (.bipush (-13), 2) := by decide +kernel
theorem dX5_people_62 : decode cX5_people 62 = .ok (.ireturn, 1) := by decide +kernel
theorem dX5_people_63 : decode cX5_people 63 = .ok (.iconst 0, 1) := by decide +kernel
theorem dX5_people_64 : decode cX5_people 64 = .ok (.istore 6, 2) := by decide +kernel
theorem dX5_people_66 : decode cX5_people 66 = .ok (.iconst 0, 1) := by decide +kernel
theorem dX5_people_67 : decode cX5_people 67 = .ok (.istore 7, 2) := by decide +kernel
theorem dX5_people_69 : decode cX5_people 69 = .ok (.iload 7, 2) := by decide +kernel
theorem dX5_people_71 : decode cX5_people 71 = .ok (.iload 4, 2) := by decide +kernel
theorem dX5_people_73 : decode cX5_people 73 = .ok (.if_icmp .ge 66, 3) := by decide +kernel
theorem dX5_people_76 : decode cX5_people 76 = .ok (.iload_n 3, 1) := by decide +kernel
theorem dX5_people_77 : decode cX5_people 77 = .ok (.iconst 3, 1) := by decide +kernel
theorem dX5_people_78 : decode cX5_people 78 = .ok (.iload 7, 2) := by decide +kernel
theorem dX5_people_80 : decode cX5_people 80 = .ok (.imul, 1) := by decide +kernel
theorem dX5_people_81 : decode cX5_people 81 = .ok (.iadd, 1) := by decide +kernel
theorem dX5_people_82 : decode cX5_people 82 = .ok (.istore 8, 2) := by decide +kernel
theorem dX5_people_84 : decode cX5_people 84 = .ok (.aload 5, 2) := by decide +kernel
theorem dX5_people_86 : decode cX5_people 86 = .ok (.iload 8, 2) := by decide +kernel
theorem dX5_people_88 : decode cX5_people 88 = .ok (.iconst 3, 1) := by decide +kernel
theorem dX5_people_89 : decode cX5_people 89 = .ok (.invokevirtual 238, 3) := by decide +kernel
theorem dX5_people_92 : decode cX5_people 92 = .ok (.ifCond .ne 6, 3) := by decide +kernel
theorem dX5_people_95 : decode cX5_people 95 = .ok (.bipush (-12), 2) := by decide +kernel
theorem dX5_people_97 : decode cX5_people 97 = .ok (.ireturn, 1) := by decide +kernel
theorem dX5_people_98 : decode cX5_people 98 = .ok (.aload_n 0, 1) := by decide +kernel
theorem dX5_people_99 : decode cX5_people 99 = .ok (.aload 5, 2) := by decide +kernel
theorem dX5_people_101 : decode cX5_people 101 = .ok (.iload 8, 2) := by decide +kernel
theorem dX5_people_103 : decode cX5_people 103 = .ok (.invokevirtual 229, 3) := by decide +kernel
theorem dX5_people_106 : decode cX5_people 106 = .ok (.aload 5, 2) := by decide +kernel
theorem dX5_people_108 : decode cX5_people 108 = .ok (.iload 8, 2) := by decide +kernel
theorem dX5_people_110 : decode cX5_people 110 = .ok (.iconst 1, 1) := by decide +kernel
theorem dX5_people_111 : decode cX5_people 111 = .ok (.iadd, 1) := by decide +kernel
theorem dX5_people_112 : decode cX5_people 112 = .ok (.invokevirtual 229, 3) := by decide +kernel
theorem dX5_people_115 : decode cX5_people 115 = .ok (.aload 5, 2) := by decide +kernel
theorem dX5_people_117 : decode cX5_people 117 = .ok (.iload 8, 2) := by decide +kernel
theorem dX5_people_119 : decode cX5_people 119 = .ok (.iconst 2, 1) := by decide +kernel
theorem dX5_people_120 : decode cX5_people 120 = .ok (.iadd, 1) := by decide +kernel
theorem dX5_people_121 : decode cX5_people 121 = .ok (.invokevirtual 229, 3) := by decide +kernel
theorem dX5_people_124 : decode cX5_people 124 = .ok (.invokevirtual 251, 3) := by decide +kernel
theorem dX5_people_127 : decode cX5_people 127 = .ok (.ifCond .lt 6, 3) := by decide +kernel
theorem dX5_people_130 : decode cX5_people 130 = .ok (.iinc 6 1, 3) := by decide +kernel
theorem dX5_people_133 : decode cX5_people 133 = .ok (.iinc 7 1, 3) := by decide +kernel
theorem dX5_people_136 : decode cX5_people 136 = .ok (.goto (-67), 3) := by decide +kernel
theorem dX5_people_139 : decode cX5_people 139 = .ok (.iload 6, 2) := by decide +kernel
theorem dX5_people_141 : decode cX5_people 141 = .ok (.ireturn, 1) := by decide +kernel
theorem dX5_taken_0 : decode cX5_taken 0 = .ok (.iload_n 2, 1) := by decide +kernel
theorem dX5_taken_1 : decode cX5_taken 1 = .ok (.iconst 0, 1) := by decide +kernel
theorem dX5_taken_2 : decode cX5_taken 2 = .ok (.iconst 5, 1) := by decide +kernel
theorem dX5_taken_3 : decode cX5_taken 3 = .ok (.invokestatic 78, 3) := by decide +kernel
theorem dX5_taken_6 : decode cX5_taken 6 = .ok (.ifCond .ne 6, 3) := by decide +kernel
theorem dX5_taken_9 : decode cX5_taken 9 = .ok (.bipush (-2), 2) := by decide +kernel
theorem dX5_taken_11 : decode cX5_taken 11 = .ok (.ireturn, 1) := by decide +kernel
theorem dX5_taken_12 : decode cX5_taken 12 = .ok (.aload_n 0, 1) := by decide +kernel
theorem dX5_taken_13 : decode cX5_taken 13 = .ok (.getfield 34, 3) := by decide +kernel
theorem dX5_taken_16 : decode cX5_taken 16 = .ok (.iload_n 1, 1) := by decide +kernel
theorem dX5_taken_17 : decode cX5_taken 17 = .ok (.invokevirtual 106, 3) := by decide +kernel
theorem dX5_taken_20 : decode cX5_taken 20 = .ok (.ifCond .ne 6, 3) := by decide +kernel
theorem dX5_taken_23 : decode cX5_taken 23 = .ok (.bipush (-11), 2) := by decide +kernel
theorem dX5_taken_25 : decode cX5_taken 25 = .ok (.ireturn, 1) := by decide +kernel
theorem dX5_taken_26 : decode cX5_taken 26 = .ok (.aload_n 0, 1) := by decide +kernel
theorem dX5_taken_27 : decode cX5_taken 27 = .ok (.getfield 34, 3) := by decide +kernel
theorem dX5_taken_30 : decode cX5_taken 30 = .ok (.getfield 110, 3) := by decide +kernel
theorem dX5_taken_33 : decode cX5_taken 33 = .ok (.iload_n 1, 1) := by decide +kernel
theorem dX5_taken_34 : decode cX5_taken 34 = .ok (.iaload, 1) := by decide +kernel
theorem dX5_taken_35 : decode cX5_taken 35 = .ok (.iload_n 2, 1) := by decide +kernel
theorem dX5_taken_36 : decode cX5_taken 36 = .ok (.invokestatic 254, 3) := by decide +kernel
theorem dX5_taken_39 : decode cX5_taken 39 = .ok (.ifCond .eq 15, 3) := by decide +kernel
theorem dX5_taken_42 : decode cX5_taken 42 = .ok (.aload_n 0, 1) := by decide +kernel
theorem dX5_taken_43 : decode cX5_taken 43 = .ok (.getfield 34, 3) := by decide +kernel
theorem dX5_taken_46 : decode cX5_taken 46 = .ok (.getfield 89, 3) := by decide +kernel
theorem dX5_taken_49 : decode cX5_taken 49 = .ok (.iload_n 1, 1) := by decide +kernel
theorem dX5_taken_50 : decode cX5_taken 50 = .ok (.iaload, 1) := by decide +kernel
theorem dX5_taken_51 : decode cX5_taken 51 = .ok (.goto 5, 3) := by decide +kernel
theorem dX5_taken_54 : decode cX5_taken 54 = .ok (.bipush (-13), 2) := by decide +kernel
theorem dX5_taken_56 : decode cX5_taken 56 = .ok (.ireturn, 1) := by decide +kernel
theorem dX5_isUnder_0 : decode cX5_isUnder 0 = .ok (.iload_n 0, 1) := by decide +kernel
theorem dX5_isUnder_1 : decode cX5_isUnder 1 = .ok (.istore_n 2, 1) := by decide +kernel
theorem dX5_isUnder_2 : decode cX5_isUnder 2 = .ok (.iconst 0, 1) := by decide +kernel
theorem dX5_isUnder_3 : decode cX5_isUnder 3 = .ok (.istore_n 3, 1) := by decide +kernel
theorem dX5_isUnder_4 : decode cX5_isUnder 4 = .ok (.iload_n 3, 1) := by decide +kernel
theorem dX5_isUnder_5 : decode cX5_isUnder 5 = .ok (.bipush 6, 2) := by decide +kernel
theorem dX5_isUnder_7 : decode cX5_isUnder 7 = .ok (.if_icmp .ge 23, 3) := by decide +kernel
theorem dX5_isUnder_10 : decode cX5_isUnder 10 = .ok (.iload_n 2, 1) := by decide +kernel
theorem dX5_isUnder_11 : decode cX5_isUnder 11 = .ok (.iload_n 1, 1) := by decide +kernel
theorem dX5_isUnder_12 : decode cX5_isUnder 12 = .ok (.if_icmp .eq 18, 3) := by decide +kernel
theorem dX5_isUnder_15 : decode cX5_isUnder 15 = .ok (.iload_n 2, 1) := by decide +kernel
theorem dX5_isUnder_16 : decode cX5_isUnder 16 = .ok (.ifCond .eq 14, 3) := by decide +kernel
theorem dX5_isUnder_19 : decode cX5_isUnder 19 = .ok (.iload_n 2, 1) := by decide +kernel
theorem dX5_isUnder_20 : decode cX5_isUnder 20 = .ok (.invokestatic 257, 3) := by decide +kernel
theorem dX5_isUnder_23 : decode cX5_isUnder 23 = .ok (.istore_n 2, 1) := by decide +kernel
theorem dX5_isUnder_24 : decode cX5_isUnder 24 = .ok (.iinc 3 1, 3) := by decide +kernel
theorem dX5_isUnder_27 : decode cX5_isUnder 27 = .ok (.goto (-23), 3) := by decide +kernel
theorem dX5_isUnder_30 : decode cX5_isUnder 30 = .ok (.iload_n 2, 1) := by decide +kernel
theorem dX5_isUnder_31 : decode cX5_isUnder 31 = .ok (.iload_n 1, 1) := by decide +kernel
theorem dX5_isUnder_32 : decode cX5_isUnder 32 = .ok (.if_icmp .ne 7, 3) := by decide +kernel
theorem dX5_isUnder_35 : decode cX5_isUnder 35 = .ok (.iconst 1, 1) := by decide +kernel
theorem dX5_isUnder_36 : decode cX5_isUnder 36 = .ok (.goto 4, 3) := by decide +kernel
theorem dX5_isUnder_39 : decode cX5_isUnder 39 = .ok (.iconst 0, 1) := by decide +kernel
theorem dX5_isUnder_40 : decode cX5_isUnder 40 = .ok (.ireturn, 1) := by decide +kernel
theorem dX5_kindAbove_0 : decode cX5_kindAbove 0 = .ok (.iload_n 0, 1) := by decide +kernel
theorem dX5_kindAbove_1 : decode cX5_kindAbove 1 = .ok (.lookupswitch 31 #[(3, 27), (4, 29)], 27) := by decide +kernel
theorem dX5_kindAbove_28 : decode cX5_kindAbove 28 = .ok (.iconst 1, 1) := by decide +kernel
theorem dX5_kindAbove_29 : decode cX5_kindAbove 29 = .ok (.ireturn, 1) := by decide +kernel
theorem dX5_kindAbove_30 : decode cX5_kindAbove 30 = .ok (.iconst 2, 1) := by decide +kernel
theorem dX5_kindAbove_31 : decode cX5_kindAbove 31 = .ok (.ireturn, 1) := by decide +kernel
theorem dX5_kindAbove_32 : decode cX5_kindAbove 32 = .ok (.iconst 0, 1) := by decide +kernel
theorem dX5_kindAbove_33 : decode cX5_kindAbove 33 = .ok (.ireturn, 1) := by decide +kernel
theorem dX5_within_0 : decode cX5_within 0 = .ok (.iload_n 0, 1) := by decide +kernel
theorem dX5_within_1 : decode cX5_within 1 = .ok (.iload_n 1, 1) := by decide +kernel
theorem dX5_within_2 : decode cX5_within 2 = .ok (.if_icmp .lt 12, 3) := by decide +kernel
theorem dX5_within_5 : decode cX5_within 5 = .ok (.iload_n 0, 1) := by decide +kernel
theorem dX5_within_6 : decode cX5_within 6 = .ok (.iload_n 2, 1) := by decide +kernel
theorem dX5_within_7 : decode cX5_within 7 = .ok (.if_icmp .gt 7, 3) := by decide +kernel
theorem dX5_within_10 : decode cX5_within 10 = .ok (.iconst 1, 1) := by decide +kernel
theorem dX5_within_11 : decode cX5_within 11 = .ok (.goto 4, 3) := by decide +kernel
theorem dX5_within_14 : decode cX5_within 14 = .ok (.iconst 0, 1) := by decide +kernel
theorem dX5_within_15 : decode cX5_within 15 = .ok (.ireturn, 1) := by decide +kernel
theorem dX5_bounded_0 : decode cX5_bounded 0 = .ok (.iload_n 1, 1) := by decide +kernel
theorem dX5_bounded_1 : decode cX5_bounded 1 = .ok (.iload_n 2, 1) := by decide +kernel
theorem dX5_bounded_2 : decode cX5_bounded 2 = .ok (.iload_n 0, 1) := by decide +kernel
theorem dX5_bounded_3 : decode cX5_bounded 3 = .ok (.invokestatic 192, 3) := by decide +kernel
theorem dX5_bounded_6 : decode cX5_bounded 6 = .ok (.invokestatic 260, 3) := by decide +kernel
theorem dX5_bounded_9 : decode cX5_bounded 9 = .ok (.ireturn, 1) := by decide +kernel
theorem dX6_init_0 : decode cX6_init 0 = .ok (.aload_n 0, 1) := by decide +kernel
theorem dX6_init_1 : decode cX6_init 1 = .ok (.invokespecial 1, 3) := by decide +kernel
theorem dX6_init_4 : decode cX6_init 4 = .ok (.aload_n 0, 1) := by decide +kernel
theorem dX6_init_5 : decode cX6_init 5 = .ok (.iconst 5, 1) := by decide +kernel
theorem dX6_init_6 : decode cX6_init 6 = .ok (.newarray .int, 2) := by decide +kernel
theorem dX6_init_8 : decode cX6_init 8 = .ok (.putfield 7, 3) := by decide +kernel
theorem dX6_init_11 : decode cX6_init 11 = .ok (.aload_n 0, 1) := by decide +kernel
theorem dX6_init_12 : decode cX6_init 12 = .ok (.iconst 5, 1) := by decide +kernel
theorem dX6_init_13 : decode cX6_init 13 = .ok (.newarray .int, 2) := by decide +kernel
theorem dX6_init_15 : decode cX6_init 15 = .ok (.putfield 13, 3) := by decide +kernel
theorem dX6_init_18 : decode cX6_init 18 = .ok (.aload_n 0, 1) := by decide +kernel
theorem dX6_init_19 : decode cX6_init 19 = .ok (.iconst 5, 1) := by decide +kernel
theorem dX6_init_20 : decode cX6_init 20 = .ok (.newarray .int, 2) := by decide +kernel
theorem dX6_init_22 : decode cX6_init 22 = .ok (.putfield 16, 3) := by decide +kernel
theorem dX6_init_25 : decode cX6_init 25 = .ok (.aload_n 0, 1) := by decide +kernel
theorem dX6_init_26 : decode cX6_init 26 = .ok (.iconst 5, 1) := by decide +kernel
theorem dX6_init_27 : decode cX6_init 27 = .ok (.newarray .int, 2) := by decide +kernel
theorem dX6_init_29 : decode cX6_init 29 = .ok (.putfield 19, 3) := by decide +kernel
theorem dX6_init_32 : decode cX6_init 32 = .ok (.aload_n 0, 1) := by decide +kernel
theorem dX6_init_33 : decode cX6_init 33 = .ok (.sipush 160, 3) := by decide +kernel
theorem dX6_init_36 : decode cX6_init 36 = .ok (.newarray .int, 2) := by decide +kernel
theorem dX6_init_38 : decode cX6_init 38 = .ok (.putfield 22, 3) := by decide +kernel
theorem dX6_init_41 : decode cX6_init 41 = .ok (.aload_n 0, 1) := by decide +kernel
theorem dX6_init_42 : decode cX6_init 42 = .ok (.bipush 18, 2) := by decide +kernel
theorem dX6_init_44 : decode cX6_init 44 = .ok (.newarray .int, 2) := by decide +kernel
theorem dX6_init_46 : decode cX6_init 46 = .ok (.putfield 25, 3) := by decide +kernel
theorem dX6_init_49 : decode cX6_init 49 = .ok (.aload_n 0, 1) := by decide +kernel
theorem dX6_init_50 : decode cX6_init 50 = .ok (.bipush 18, 2) := by decide +kernel
theorem dX6_init_52 : decode cX6_init 52 = .ok (.newarray .int, 2) := by decide +kernel
theorem dX6_init_54 : decode cX6_init 54 = .ok (.putfield 28, 3) := by decide +kernel
theorem dX6_init_57 : decode cX6_init 57 = .ok (.aload_n 0, 1) := by decide +kernel
theorem dX6_init_58 : decode cX6_init 58 = .ok (.sipush 3000, 3) := by decide +kernel
theorem dX6_init_61 : decode cX6_init 61 = .ok (.newarray .int, 2) := by decide +kernel
theorem dX6_init_63 : decode cX6_init 63 = .ok (.putfield 31, 3) := by decide +kernel
theorem dX6_init_66 : decode cX6_init 66 = .ok (.aload_n 0, 1) := by decide +kernel
theorem dX6_init_67 : decode cX6_init 67 = .ok (.sipush 200, 3) := by decide +kernel
theorem dX6_init_70 : decode cX6_init 70 = .ok (.newarray .int, 2) := by decide +kernel
theorem dX6_init_72 : decode cX6_init 72 = .ok (.putfield 34, 3) := by decide +kernel
theorem dX6_init_75 : decode cX6_init 75 = .ok (.aload_n 0, 1) := by decide +kernel
theorem dX6_init_76 : decode cX6_init 76 = .ok (.sipush 200, 3) := by decide +kernel
theorem dX6_init_79 : decode cX6_init 79 = .ok (.newarray .int, 2) := by decide +kernel
theorem dX6_init_81 : decode cX6_init 81 = .ok (.putfield 37, 3) := by decide +kernel
theorem dX6_init_84 : decode cX6_init 84 = .ok (.aload_n 0, 1) := by decide +kernel
theorem dX6_init_85 : decode cX6_init 85 = .ok (.bipush 6, 2) := by decide +kernel
theorem dX6_init_87 : decode cX6_init 87 = .ok (.newarray .int, 2) := by decide +kernel
theorem dX6_init_89 : decode cX6_init 89 = .ok (.putfield 40, 3) := by decide +kernel
theorem dX6_init_92 : decode cX6_init 92 = .ok (.aload_n 0, 1) := by decide +kernel
theorem dX6_init_93 : decode cX6_init 93 = .ok (.iconst 5, 1) := by decide +kernel
theorem dX6_init_94 : decode cX6_init 94 = .ok (.newarray .int, 2) := by decide +kernel
theorem dX6_init_96 : decode cX6_init 96 = .ok (.putfield 43, 3) := by decide +kernel
theorem dX6_init_99 : decode cX6_init 99 = .ok (.aload_n 0, 1) := by decide +kernel
theorem dX6_init_100 : decode cX6_init 100 = .ok (.iconst 5, 1) := by decide +kernel
theorem dX6_init_101 : decode cX6_init 101 = .ok (.newarray .int, 2) := by decide +kernel
theorem dX6_init_103 : decode cX6_init 103 = .ok (.putfield 46, 3) := by decide +kernel
theorem dX6_init_106 : decode cX6_init 106 = .ok (.aload_n 0, 1) := by decide +kernel
theorem dX6_init_107 : decode cX6_init 107 = .ok (.iconst 5, 1) := by decide +kernel
theorem dX6_init_108 : decode cX6_init 108 = .ok (.newarray .int, 2) := by decide +kernel
theorem dX6_init_110 : decode cX6_init 110 = .ok (.putfield 49, 3) := by decide +kernel
theorem dX6_init_113 : decode cX6_init 113 = .ok (.aload_n 0, 1) := by decide +kernel
theorem dX6_init_114 : decode cX6_init 114 = .ok (.sipush 31000, 3) := by decide +kernel
theorem dX6_init_117 : decode cX6_init 117 = .ok (.newarray .boolean, 2) := by decide +kernel
theorem dX6_init_119 : decode cX6_init 119 = .ok (.putfield 52, 3) := by decide +kernel
theorem dX6_init_122 : decode cX6_init 122 = .ok (.aload_n 0, 1) := by decide +kernel
theorem dX6_init_123 : decode cX6_init 123 = .ok (.sipush 31000, 3) := by decide +kernel
theorem dX6_init_126 : decode cX6_init 126 = .ok (.newarray .int, 2) := by decide +kernel
theorem dX6_init_128 : decode cX6_init 128 = .ok (.putfield 56, 3) := by decide +kernel
theorem dX6_init_131 : decode cX6_init 131 = .ok (.aload_n 0, 1) := by decide +kernel
theorem dX6_init_132 : decode cX6_init 132 = .ok (.iconst 5, 1) := by decide +kernel
theorem dX6_init_133 : decode cX6_init 133 = .ok (.newarray .int, 2) := by decide +kernel
theorem dX6_init_135 : decode cX6_init 135 = .ok (.putfield 59, 3) := by decide +kernel
theorem dX6_init_138 : decode cX6_init 138 = .ok (.aload_n 0, 1) := by decide +kernel
theorem dX6_init_139 : decode cX6_init 139 = .ok (.iconst 5, 1) := by decide +kernel
theorem dX6_init_140 : decode cX6_init 140 = .ok (.newarray .int, 2) := by decide +kernel
theorem dX6_init_142 : decode cX6_init 142 = .ok (.putfield 62, 3) := by decide +kernel
theorem dX6_init_145 : decode cX6_init 145 = .ok (.aload_n 0, 1) := by decide +kernel
theorem dX6_init_146 : decode cX6_init 146 = .ok (.iconst 5, 1) := by decide +kernel
theorem dX6_init_147 : decode cX6_init 147 = .ok (.newarray .int, 2) := by decide +kernel
theorem dX6_init_149 : decode cX6_init 149 = .ok (.putfield 65, 3) := by decide +kernel
theorem dX6_init_152 : decode cX6_init 152 = .ok (.aload_n 0, 1) := by decide +kernel
theorem dX6_init_153 : decode cX6_init 153 = .ok (.iconst 4, 1) := by decide +kernel
theorem dX6_init_154 : decode cX6_init 154 = .ok (.newarray .int, 2) := by decide +kernel
theorem dX6_init_156 : decode cX6_init 156 = .ok (.putfield 68, 3) := by decide +kernel
theorem dX6_init_159 : decode cX6_init 159 = .ok (.aload_n 0, 1) := by decide +kernel
theorem dX6_init_160 : decode cX6_init 160 = .ok (.iconst 4, 1) := by decide +kernel
theorem dX6_init_161 : decode cX6_init 161 = .ok (.newarray .int, 2) := by decide +kernel
theorem dX6_init_163 : decode cX6_init 163 = .ok (.putfield 71, 3) := by decide +kernel
theorem dX6_init_166 : decode cX6_init 166 = .ok (.aload_n 0, 1) := by decide +kernel
theorem dX6_init_167 : decode cX6_init 167 = .ok (.sipush 160, 3) := by decide +kernel
theorem dX6_init_170 : decode cX6_init 170 = .ok (.newarray .int, 2) := by decide +kernel
theorem dX6_init_172 : decode cX6_init 172 = .ok (.putfield 74, 3) := by decide +kernel
theorem dX6_init_175 : decode cX6_init 175 = .ok (.iconst 0, 1) := by decide +kernel
theorem dX6_init_176 : decode cX6_init 176 = .ok (.istore_n 1, 1) := by decide +kernel
theorem dX6_init_177 : decode cX6_init 177 = .ok (.iload_n 1, 1) := by decide +kernel
theorem dX6_init_178 : decode cX6_init 178 = .ok (.iconst 4, 1) := by decide +kernel
theorem dX6_init_179 : decode cX6_init 179 = .ok (.if_icmp .ge 16, 3) := by decide +kernel
theorem dX6_init_182 : decode cX6_init 182 = .ok (.aload_n 0, 1) := by decide +kernel
theorem dX6_init_183 : decode cX6_init 183 = .ok (.getfield 68, 3) := by decide +kernel
theorem dX6_init_186 : decode cX6_init 186 = .ok (.iload_n 1, 1) := by decide +kernel
theorem dX6_init_187 : decode cX6_init 187 = .ok (.iconst (-1), 1) := by decide +kernel
theorem dX6_init_188 : decode cX6_init 188 = .ok (.iastore, 1) := by decide +kernel
theorem dX6_init_189 : decode cX6_init 189 = .ok (.iinc 1 1, 3) := by decide +kernel
theorem dX6_init_192 : decode cX6_init 192 = .ok (.goto (-15), 3) := by decide +kernel
theorem dX6_init_195 : decode cX6_init 195 = .ok (.aload_n 0, 1) := by decide +kernel
theorem dX6_init_196 : decode cX6_init 196 = .ok (.bipush 16, 2) := by decide +kernel
theorem dX6_init_198 : decode cX6_init 198 = .ok (.invokevirtual 77, 3) := by decide +kernel
theorem dX6_init_201 : decode cX6_init 201 = .ok (.aload_n 0, 1) := by decide +kernel
theorem dX6_init_202 : decode cX6_init 202 = .ok (.iconst 0, 1) := by decide +kernel
theorem dX6_init_203 : decode cX6_init 203 = .ok (.invokevirtual 77, 3) := by decide +kernel
theorem dX6_init_206 : decode cX6_init 206 = .ok (.aload_n 0, 1) := by decide +kernel
theorem dX6_init_207 : decode cX6_init 207 = .ok (.bipush 6, 2) := by decide +kernel
theorem dX6_init_209 : decode cX6_init 209 = .ok (.invokevirtual 77, 3) := by decide +kernel
theorem dX6_init_212 : decode cX6_init 212 = .ok (.aload_n 0, 1) := by decide +kernel
theorem dX6_init_213 : decode cX6_init 213 = .ok (.bipush 15, 2) := by decide +kernel
theorem dX6_init_215 : decode cX6_init 215 = .ok (.invokevirtual 77, 3) := by decide +kernel
theorem dX6_init_218 : decode cX6_init 218 = .ok (.aload_n 0, 1) := by decide +kernel
theorem dX6_init_219 : decode cX6_init 219 = .ok (.bipush 16, 2) := by decide +kernel
theorem dX6_init_221 : decode cX6_init 221 = .ok (.invokevirtual 77, 3) := by decide +kernel
theorem dX6_init_224 : decode cX6_init 224 = .ok (.aload_n 0, 1) := by decide +kernel
theorem dX6_init_225 : decode cX6_init 225 = .ok (.getfield 28, 3) := by decide +kernel
theorem dX6_init_228 : decode cX6_init 228 = .ok (.iconst 0, 1) := by decide +kernel
theorem dX6_init_229 : decode cX6_init 229 = .ok (.iconst 3, 1) := by decide +kernel
theorem dX6_init_230 : decode cX6_init 230 = .ok (.iastore, 1) := by decide +kernel
theorem dX6_init_231 : decode cX6_init 231 = .ok (.aload_n 0, 1) := by decide +kernel
theorem dX6_init_232 : decode cX6_init 232 = .ok (.getfield 25, 3) := by decide +kernel
theorem dX6_init_235 : decode cX6_init 235 = .ok (.iconst 1, 1) := by decide +kernel
theorem dX6_init_236 : decode cX6_init 236 = .ok (.iconst 3, 1) := by decide +kernel
theorem dX6_init_237 : decode cX6_init 237 = .ok (.iastore, 1) := by decide +kernel
theorem dX6_init_238 : decode cX6_init 238 = .ok (.aload_n 0, 1) := by decide +kernel
theorem dX6_init_239 : decode cX6_init 239 = .ok (.getfield 28, 3) := by decide +kernel
theorem dX6_init_242 : decode cX6_init 242 = .ok (.iconst 1, 1) := by decide +kernel
theorem dX6_init_243 : decode cX6_init 243 = .ok (.iconst 1, 1) := by decide +kernel
theorem dX6_init_244 : decode cX6_init 244 = .ok (.iastore, 1) := by decide +kernel
theorem dX6_init_245 : decode cX6_init 245 = .ok (.aload_n 0, 1) := by decide +kernel
theorem dX6_init_246 : decode cX6_init 246 = .ok (.getfield 25, 3) := by decide +kernel
theorem dX6_init_249 : decode cX6_init 249 = .ok (.iconst 2, 1) := by decide +kernel
theorem dX6_init_250 : decode cX6_init 250 = .ok (.iconst 4, 1) := by decide +kernel
theorem dX6_init_251 : decode cX6_init 251 = .ok (.iastore, 1) := by decide +kernel
theorem dX6_init_252 : decode cX6_init 252 = .ok (.aload_n 0, 1) := by decide +kernel
theorem dX6_init_253 : decode cX6_init 253 = .ok (.getfield 28, 3) := by decide +kernel
theorem dX6_init_256 : decode cX6_init 256 = .ok (.iconst 2, 1) := by decide +kernel
theorem dX6_init_257 : decode cX6_init 257 = .ok (.iconst 1, 1) := by decide +kernel
theorem dX6_init_258 : decode cX6_init 258 = .ok (.iastore, 1) := by decide +kernel
theorem dX6_init_259 : decode cX6_init 259 = .ok (.aload_n 0, 1) := by decide +kernel
theorem dX6_init_260 : decode cX6_init 260 = .ok (.iconst 1, 1) := by decide +kernel
theorem dX6_init_261 : decode cX6_init 261 = .ok (.putfield 81, 3) := by decide +kernel
theorem dX6_init_264 : decode cX6_init 264 = .ok (.return_, 1) := by decide +kernel
theorem dX6_within_0 : decode cX6_within 0 = .ok (.iload_n 0, 1) := by decide +kernel
theorem dX6_within_1 : decode cX6_within 1 = .ok (.iload_n 1, 1) := by decide +kernel
theorem dX6_within_2 : decode cX6_within 2 = .ok (.if_icmp .lt 12, 3) := by decide +kernel
theorem dX6_within_5 : decode cX6_within 5 = .ok (.iload_n 0, 1) := by decide +kernel
theorem dX6_within_6 : decode cX6_within 6 = .ok (.iload_n 2, 1) := by decide +kernel
theorem dX6_within_7 : decode cX6_within 7 = .ok (.if_icmp .gt 7, 3) := by decide +kernel
theorem dX6_within_10 : decode cX6_within 10 = .ok (.iconst 1, 1) := by decide +kernel
theorem dX6_within_11 : decode cX6_within 11 = .ok (.goto 4, 3) := by decide +kernel
theorem dX6_within_14 : decode cX6_within 14 = .ok (.iconst 0, 1) := by decide +kernel
theorem dX6_within_15 : decode cX6_within 15 = .ok (.ireturn, 1) := by decide +kernel
theorem dX6_bound_0 : decode cX6_bound 0 = .ok (.iload_n 0, 1) := by decide +kernel
theorem dX6_bound_1 : decode cX6_bound 1 = .ok (.iload_n 1, 1) := by decide +kernel
theorem dX6_bound_2 : decode cX6_bound 2 = .ok (.if_icmp .ge 7, 3) := by decide +kernel
theorem dX6_bound_5 : decode cX6_bound 5 = .ok (.iload_n 1, 1) := by decide +kernel
theorem dX6_bound_6 : decode cX6_bound 6 = .ok (.goto 13, 3) := by decide +kernel
theorem dX6_bound_9 : decode cX6_bound 9 = .ok (.iload_n 0, 1) := by decide +kernel
theorem dX6_bound_10 : decode cX6_bound 10 = .ok (.iload_n 2, 1) := by decide +kernel
theorem dX6_bound_11 : decode cX6_bound 11 = .ok (.if_icmp .le 7, 3) := by decide +kernel
theorem dX6_bound_14 : decode cX6_bound 14 = .ok (.iload_n 2, 1) := by decide +kernel
theorem dX6_bound_15 : decode cX6_bound 15 = .ok (.goto 4, 3) := by decide +kernel
theorem dX6_bound_18 : decode cX6_bound 18 = .ok (.iload_n 0, 1) := by decide +kernel
theorem dX6_bound_19 : decode cX6_bound 19 = .ok (.ireturn, 1) := by decide +kernel
theorem dX6_isOne_0 : decode cX6_isOne 0 = .ok (.iload_n 1, 1) := by decide +kernel
theorem dX6_isOne_1 : decode cX6_isOne 1 = .ok (.iconst 0, 1) := by decide +kernel
theorem dX6_isOne_2 : decode cX6_isOne 2 = .ok (.aload_n 0, 1) := by decide +kernel
theorem dX6_isOne_3 : decode cX6_isOne 3 = .ok (.getfield 85, 3) := by decide +kernel
theorem dX6_isOne_6 : decode cX6_isOne 6 = .ok (.iconst 1, 1) := by decide +kernel
theorem dX6_isOne_7 : decode cX6_isOne 7 = .ok (.isub, 1) := by decide +kernel
theorem dX6_isOne_8 : decode cX6_isOne 8 = .ok (.invokestatic 88, 3) := by decide +kernel
theorem dX6_isOne_11 : decode cX6_isOne 11 = .ok (.ireturn, 1) := by decide +kernel
theorem dX6_areThree_0 : decode cX6_areThree 0 = .ok (.iload_n 1, 1) := by decide +kernel
theorem dX6_areThree_1 : decode cX6_areThree 1 = .ok (.ifCond .lt 10, 3) := by decide +kernel
theorem dX6_areThree_4 : decode cX6_areThree 4 = .ok (.iload_n 1, 1) := by decide +kernel
theorem dX6_areThree_5 : decode cX6_areThree 5 = .ok (.sipush 999, 3) := by decide +kernel
theorem dX6_areThree_8 : decode cX6_areThree 8 = .ok (.if_icmp .le 5, 3) := by decide +kernel
theorem dX6_areThree_11 : decode cX6_areThree 11 = .ok (.iconst 0, 1) := by decide +kernel
theorem dX6_areThree_12 : decode cX6_areThree 12 = .ok (.ireturn, 1) := by decide +kernel
theorem dX6_areThree_13 : decode cX6_areThree 13 = .ok (.iload_n 1, 1) := by decide +kernel
theorem dX6_areThree_14 : decode cX6_areThree 14 = .ok (.bipush 100, 2) := by decide +kernel
theorem dX6_areThree_16 : decode cX6_areThree 16 = .ok (.idiv, 1) := by decide +kernel
theorem dX6_areThree_17 : decode cX6_areThree 17 = .ok (.istore_n 2, 1) := by decide +kernel
theorem dX6_areThree_18 : decode cX6_areThree 18 = .ok (.iload_n 1, 1) := by decide +kernel
theorem dX6_areThree_19 : decode cX6_areThree 19 = .ok (.bipush 10, 2) := by decide +kernel
theorem dX6_areThree_21 : decode cX6_areThree 21 = .ok (.idiv, 1) := by decide +kernel
theorem dX6_areThree_22 : decode cX6_areThree 22 = .ok (.bipush 10, 2) := by decide +kernel
theorem dX6_areThree_24 : decode cX6_areThree 24 = .ok (.irem, 1) := by decide +kernel
theorem dX6_areThree_25 : decode cX6_areThree 25 = .ok (.istore_n 3, 1) := by decide +kernel
theorem dX6_areThree_26 : decode cX6_areThree 26 = .ok (.iload_n 1, 1) := by decide +kernel
theorem dX6_areThree_27 : decode cX6_areThree 27 = .ok (.bipush 10, 2) := by decide +kernel
theorem dX6_areThree_29 : decode cX6_areThree 29 = .ok (.irem, 1) := by decide +kernel
theorem dX6_areThree_30 : decode cX6_areThree 30 = .ok (.istore 4, 2) := by decide +kernel
theorem dX6_areThree_32 : decode cX6_areThree 32 = .ok (.aload_n 0, 1) := by decide +kernel
theorem dX6_areThree_33 : decode cX6_areThree 33 = .ok (.iload_n 2, 1) := by decide +kernel
theorem dX6_areThree_34 : decode cX6_areThree 34 = .ok (.invokevirtual 92, 3) := by decide +kernel
theorem dX6_areThree_37 : decode cX6_areThree 37 = .ok (.ifCond .eq 41, 3) := by decide +kernel
theorem dX6_areThree_40 : decode cX6_areThree 40 = .ok (.aload_n 0, 1) := by decide +kernel
theorem dX6_areThree_41 : decode cX6_areThree 41 = .ok (.iload_n 3, 1) := by decide +kernel
theorem dX6_areThree_42 : decode cX6_areThree 42 = .ok (.invokevirtual 92, 3) := by decide +kernel
theorem dX6_areThree_45 : decode cX6_areThree 45 = .ok (.ifCond .eq 33, 3) := by decide +kernel
theorem dX6_areThree_48 : decode cX6_areThree 48 = .ok (.aload_n 0, 1) := by decide +kernel
theorem dX6_areThree_49 : decode cX6_areThree 49 = .ok (.iload 4, 2) := by decide +kernel
theorem dX6_areThree_51 : decode cX6_areThree 51 = .ok (.invokevirtual 92, 3) := by decide +kernel
theorem dX6_areThree_54 : decode cX6_areThree 54 = .ok (.ifCond .eq 24, 3) := by decide +kernel
theorem dX6_areThree_57 : decode cX6_areThree 57 = .ok (.iload_n 2, 1) := by decide +kernel
theorem dX6_areThree_58 : decode cX6_areThree 58 = .ok (.iload_n 3, 1) := by decide +kernel
theorem dX6_areThree_59 : decode cX6_areThree 59 = .ok (.if_icmp .eq 19, 3) := by decide +kernel
theorem dX6_areThree_62 : decode cX6_areThree 62 = .ok (.iload_n 2, 1) := by decide +kernel
theorem dX6_areThree_63 : decode cX6_areThree 63 = .ok (.iload 4, 2) := by decide +kernel
theorem dX6_areThree_65 : decode cX6_areThree 65 = .ok (.if_icmp .eq 13, 3) := by decide +kernel
theorem dX6_areThree_68 : decode cX6_areThree 68 = .ok (.iload_n 3, 1) := by decide +kernel
theorem dX6_areThree_69 : decode cX6_areThree 69 = .ok (.iload 4, 2) := by decide +kernel
theorem dX6_areThree_71 : decode cX6_areThree 71 = .ok (.if_icmp .eq 7, 3) := by decide +kernel
theorem dX6_areThree_74 : decode cX6_areThree 74 = .ok (.iconst 1, 1) := by decide +kernel
theorem dX6_areThree_75 : decode cX6_areThree 75 = .ok (.goto 4, 3) := by decide +kernel
theorem dX6_areThree_78 : decode cX6_areThree 78 = .ok (.iconst 0, 1) := by decide +kernel
theorem dX6_areThree_79 : decode cX6_areThree 79 = .ok (.ireturn, 1) := by decide +kernel
theorem dX6_isSheet_0 : decode cX6_isSheet 0 = .ok (.iload_n 0, 1) := by decide +kernel
theorem dX6_isSheet_1 : decode cX6_isSheet 1 = .ok (.iconst 0, 1) := by decide +kernel
theorem dX6_isSheet_2 : decode cX6_isSheet 2 = .ok (.iconst 3, 1) := by decide +kernel
theorem dX6_isSheet_3 : decode cX6_isSheet 3 = .ok (.invokestatic 88, 3) := by decide +kernel
theorem dX6_isSheet_6 : decode cX6_isSheet 6 = .ok (.ireturn, 1) := by decide +kernel
theorem dX6_isOf_0 : decode cX6_isOf 0 = .ok (.iload_n 1, 1) := by decide +kernel
theorem dX6_isOf_1 : decode cX6_isOf 1 = .ok (.iconst 0, 1) := by decide +kernel
theorem dX6_isOf_2 : decode cX6_isOf 2 = .ok (.iconst 1, 1) := by decide +kernel
theorem dX6_isOf_3 : decode cX6_isOf 3 = .ok (.invokestatic 88, 3) := by decide +kernel
theorem dX6_isOf_6 : decode cX6_isOf 6 = .ok (.ifCond .ne 20, 3) := by decide +kernel
theorem dX6_isOf_9 : decode cX6_isOf 9 = .ok (.iload_n 1, 1) := by decide +kernel
theorem dX6_isOf_10 : decode cX6_isOf 10 = .ok (.iconst 2, 1) := by decide +kernel
theorem dX6_isOf_11 : decode cX6_isOf 11 = .ok (.iconst 4, 1) := by decide +kernel
theorem dX6_isOf_12 : decode cX6_isOf 12 = .ok (.invokestatic 88, 3) := by decide +kernel
theorem dX6_isOf_15 : decode cX6_isOf 15 = .ok (.ifCond .eq 15, 3) := by decide +kernel
theorem dX6_isOf_18 : decode cX6_isOf 18 = .ok (.aload_n 0, 1) := by decide +kernel
theorem dX6_isOf_19 : decode cX6_isOf 19 = .ok (.iload_n 2, 1) := by decide +kernel
theorem dX6_isOf_20 : decode cX6_isOf 20 = .ok (.invokevirtual 92, 3) := by decide +kernel
theorem dX6_isOf_23 : decode cX6_isOf 23 = .ok (.ifCond .eq 7, 3) := by decide +kernel
theorem dX6_isOf_26 : decode cX6_isOf 26 = .ok (.iconst 1, 1) := by decide +kernel
theorem dX6_isOf_27 : decode cX6_isOf 27 = .ok (.goto 4, 3) := by decide +kernel
theorem dX6_isOf_30 : decode cX6_isOf 30 = .ok (.iconst 0, 1) := by decide +kernel
theorem dX6_isOf_31 : decode cX6_isOf 31 = .ok (.ireturn, 1) := by decide +kernel
theorem dX6_get_0 : decode cX6_get 0 = .ok (.iload_n 1, 1) := by decide +kernel
theorem dX6_get_1 : decode cX6_get 1 = .ok (.tableswitch 55 0 3 #[31, 36, 41, 48], 31) := by decide +kernel
theorem dX6_get_32 : decode cX6_get 32 = .ok (.aload_n 0, 1) := by decide +kernel
theorem dX6_get_33 : decode cX6_get 33 = .ok (.getfield 96, 3) := by decide +kernel
theorem dX6_get_36 : decode cX6_get 36 = .ok (.ireturn, 1) := by decide +kernel
theorem dX6_get_37 : decode cX6_get 37 = .ok (.aload_n 0, 1) := by decide +kernel
theorem dX6_get_38 : decode cX6_get 38 = .ok (.getfield 99, 3) := by decide +kernel
theorem dX6_get_41 : decode cX6_get 41 = .ok (.ireturn, 1) := by decide +kernel
theorem dX6_get_42 : decode cX6_get 42 = .ok (.aload_n 0, 1) := by decide +kernel
theorem dX6_get_43 : decode cX6_get 43 = .ok (.getfield 13, 3) := by decide +kernel
theorem dX6_get_46 : decode cX6_get 46 = .ok (.iload_n 2, 1) := by decide +kernel
theorem dX6_get_47 : decode cX6_get 47 = .ok (.iaload, 1) := by decide +kernel
theorem dX6_get_48 : decode cX6_get 48 = .ok (.ireturn, 1) := by decide +kernel
theorem dX6_get_49 : decode cX6_get 49 = .ok (.aload_n 0, 1) := by decide +kernel
theorem dX6_get_50 : decode cX6_get 50 = .ok (.getfield 16, 3) := by decide +kernel
theorem dX6_get_53 : decode cX6_get 53 = .ok (.iload_n 2, 1) := by decide +kernel
theorem dX6_get_54 : decode cX6_get 54 = .ok (.iaload, 1) := by decide +kernel
theorem dX6_get_55 : decode cX6_get 55 = .ok (.ireturn, 1) := by decide +kernel
theorem dX6_get_56 : decode cX6_get 56 = .ok (.aload_n 0, 1) := by decide +kernel
theorem dX6_get_57 : decode cX6_get 57 = .ok (.getfield 19, 3) := by decide +kernel
theorem dX6_get_60 : decode cX6_get 60 = .ok (.iload_n 2, 1) := by decide +kernel
theorem dX6_get_61 : decode cX6_get 61 = .ok (.iaload, 1) := by decide +kernel
theorem dX6_get_62 : decode cX6_get 62 = .ok (.ireturn, 1) := by decide +kernel
theorem dX6_set_0 : decode cX6_set 0 = .ok (.aload_n 0, 1) := by decide +kernel
theorem dX6_set_1 : decode cX6_set 1 = .ok (.iload_n 1, 1) := by decide +kernel
theorem dX6_set_2 : decode cX6_set 2 = .ok (.iload_n 2, 1) := by decide +kernel
theorem dX6_set_3 : decode cX6_set 3 = .ok (.invokevirtual 102, 3) := by decide +kernel
theorem dX6_set_6 : decode cX6_set 6 = .ok (.ifCond .eq 29, 3) := by decide +kernel
theorem dX6_set_9 : decode cX6_set 9 = .ok (.iload_n 3, 1) := by decide +kernel
theorem dX6_set_10 : decode cX6_set 10 = .ok (.iconst 0, 1) := by decide +kernel
theorem dX6_set_11 : decode cX6_set 11 = .ok (.iload_n 1, 1) := by decide +kernel
theorem dX6_set_12 : decode cX6_set 12 = .ok (.iconst 1, 1) := by decide +kernel
theorem dX6_set_13 : decode cX6_set 13 = .ok (.if_icmp .eq 8, 3) := by decide +kernel
theorem dX6_set_16 : decode cX6_set 16 = .ok (.iload_n 1, 1) := by decide +kernel
theorem dX6_set_17 : decode cX6_set 17 = .ok (.iconst 2, 1) := by decide +kernel
theorem dX6_set_18 : decode cX6_set 18 = .ok (.if_icmp .ne 8, 3) := by decide +kernel
theorem dX6_set_21 : decode cX6_set 21 = .ok (.bipush 9, 2) := by decide +kernel
theorem dX6_set_23 : decode cX6_set 23 = .ok (.goto 6, 3) := by decide +kernel
theorem dX6_set_26 : decode cX6_set 26 = .ok (.sipush 999, 3) := by decide +kernel
theorem dX6_set_29 : decode cX6_set 29 = .ok (.invokestatic 88, 3) := by decide +kernel
theorem dX6_set_32 : decode cX6_set 32 = .ok (.ifCond .ne 6, 3) := by decide +kernel
theorem dX6_set_35 : decode cX6_set 35 = .ok (.bipush (-2), 2) := by decide +kernel
theorem dX6_set_37 : decode cX6_set 37 = .ok (.ireturn, 1) := by decide +kernel
theorem dX6_set_38 : decode cX6_set 38 = .ok (.aload_n 0, 1) := by decide +kernel
theorem dX6_set_39 : decode cX6_set 39 = .ok (.iload_n 1, 1) := by decide +kernel
theorem dX6_set_40 : decode cX6_set 40 = .ok (.iload_n 2, 1) := by decide +kernel
theorem dX6_set_41 : decode cX6_set 41 = .ok (.invokevirtual 106, 3) := by decide +kernel
theorem dX6_set_44 : decode cX6_set 44 = .ok (.istore 4, 2) := by decide +kernel
theorem dX6_set_46 : decode cX6_set 46 = .ok (.iload_n 1, 1) := by decide +kernel
theorem dX6_set_47 : decode cX6_set 47 = .ok (.tableswitch 65 0 3 #[29, 37, 45, 55], 29) := by decide +kernel
theorem dX6_set_76 : decode cX6_set 76 = .ok (.aload_n 0, 1) := by decide +kernel
theorem dX6_set_77 : decode cX6_set 77 = .ok (.iload_n 3, 1) := by decide +kernel
theorem dX6_set_78 : decode cX6_set 78 = .ok (.putfield 96, 3) := by decide +kernel
theorem dX6_set_81 : decode cX6_set 81 = .ok (.goto 38, 3) := by decide +kernel
theorem dX6_set_84 : decode cX6_set 84 = .ok (.aload_n 0, 1) := by decide +kernel
theorem dX6_set_85 : decode cX6_set 85 = .ok (.iload_n 3, 1) := by decide +kernel
theorem dX6_set_86 : decode cX6_set 86 = .ok (.putfield 99, 3) := by decide +kernel
theorem dX6_set_89 : decode cX6_set 89 = .ok (.goto 30, 3) := by decide +kernel
theorem dX6_set_92 : decode cX6_set 92 = .ok (.aload_n 0, 1) := by decide +kernel
theorem dX6_set_93 : decode cX6_set 93 = .ok (.getfield 13, 3) := by decide +kernel
theorem dX6_set_96 : decode cX6_set 96 = .ok (.iload_n 2, 1) := by decide +kernel
theorem dX6_set_97 : decode cX6_set 97 = .ok (.iload_n 3, 1) := by decide +kernel
theorem dX6_set_98 : decode cX6_set 98 = .ok (.iastore, 1) := by decide +kernel
theorem dX6_set_99 : decode cX6_set 99 = .ok (.goto 20, 3) := by decide +kernel
theorem dX6_set_102 : decode cX6_set 102 = .ok (.aload_n 0, 1) := by decide +kernel
theorem dX6_set_103 : decode cX6_set 103 = .ok (.getfield 16, 3) := by decide +kernel
theorem dX6_set_106 : decode cX6_set 106 = .ok (.iload_n 2, 1) := by decide +kernel
theorem dX6_set_107 : decode cX6_set 107 = .ok (.iload_n 3, 1) := by decide +kernel
theorem dX6_set_108 : decode cX6_set 108 = .ok (.iastore, 1) := by decide +kernel
theorem dX6_set_109 : decode cX6_set 109 = .ok (.goto 10, 3) := by decide +kernel
theorem dX6_set_112 : decode cX6_set 112 = .ok (.aload_n 0, 1) := by decide +kernel
theorem dX6_set_113 : decode cX6_set 113 = .ok (.getfield 19, 3) := by decide +kernel
theorem dX6_set_116 : decode cX6_set 116 = .ok (.iload_n 2, 1) := by decide +kernel
theorem dX6_set_117 : decode cX6_set 117 = .ok (.iload_n 3, 1) := by decide +kernel
theorem dX6_set_118 : decode cX6_set 118 = .ok (.iastore, 1) := by decide +kernel
theorem dX6_set_119 : decode cX6_set 119 = .ok (.iload 4, 2) := by decide +kernel
theorem dX6_set_121 : decode cX6_set 121 = .ok (.ireturn, 1) := by decide +kernel
theorem dX6_person_0 : decode cX6_person 0 = .ok (.iload_n 1, 1) := by decide +kernel
theorem dX6_person_1 : decode cX6_person 1 = .ok (.iconst 0, 1) := by decide +kernel
theorem dX6_person_2 : decode cX6_person 2 = .ok (.iconst 5, 1) := by decide +kernel
theorem dX6_person_3 : decode cX6_person 3 = .ok (.invokestatic 88, 3) := by decide +kernel
theorem dX6_person_6 : decode cX6_person 6 = .ok (.ifCond .eq 24, 3) := by decide +kernel
theorem dX6_person_9 : decode cX6_person 9 = .ok (.iload_n 2, 1) := by decide +kernel
theorem dX6_person_10 : decode cX6_person 10 = .ok (.iconst 0, 1) := by decide +kernel
theorem dX6_person_11 : decode cX6_person 11 = .ok (.bipush 9, 2) := by decide +kernel
theorem dX6_person_13 : decode cX6_person 13 = .ok (.invokestatic 88, 3) := by decide +kernel
theorem dX6_person_16 : decode cX6_person 16 = .ok (.ifCond .eq 14, 3) := by decide +kernel
theorem dX6_person_19 : decode cX6_person 19 = .ok (.iload_n 3, 1) := by decide +kernel
theorem dX6_person_20 : decode cX6_person 20 = .ok (.iconst 0, 1) := by decide +kernel
theorem dX6_person_21 : decode cX6_person 21 = .ok (.sipush 999, 3) := by decide +kernel
theorem dX6_person_24 : decode cX6_person 24 = .ok (.invokestatic 88, 3) := by decide +kernel
theorem dX6_person_27 : decode cX6_person 27 = .ok (.ifCond .ne 6, 3) := by decide +kernel
theorem dX6_person_30 : decode cX6_person 30 = .ok (.bipush (-2), 2) := by decide +kernel
theorem dX6_person_32 : decode cX6_person 32 = .ok (.ireturn, 1) := by decide +kernel
theorem dX6_person_33 : decode cX6_person 33 = .ok (.aload_n 0, 1) := by decide +kernel
theorem dX6_person_34 : decode cX6_person 34 = .ok (.getfield 85, 3) := by decide +kernel
theorem dX6_person_37 : decode cX6_person 37 = .ok (.iconst 5, 1) := by decide +kernel
theorem dX6_person_38 : decode cX6_person 38 = .ok (.if_icmp .ne 6, 3) := by decide +kernel
theorem dX6_person_41 : decode cX6_person 41 = .ok (.bipush (-4), 2) := by decide +kernel
theorem dX6_person_43 : decode cX6_person 43 = .ok (.ireturn, 1) := by decide +kernel
theorem dX6_person_44 : decode cX6_person 44 = .ok (.aload_n 0, 1) := by decide +kernel
theorem dX6_person_45 : decode cX6_person 45 = .ok (.getfield 7, 3) := by decide +kernel
theorem dX6_person_48 : decode cX6_person 48 = .ok (.aload_n 0, 1) := by decide +kernel
theorem dX6_person_49 : decode cX6_person 49 = .ok (.getfield 85, 3) := by decide +kernel
theorem dX6_person_52 : decode cX6_person 52 = .ok (.iload_n 1, 1) := by decide +kernel
theorem dX6_person_53 : decode cX6_person 53 = .ok (.iastore, 1) := by decide +kernel
theorem dX6_person_54 : decode cX6_person 54 = .ok (.aload_n 0, 1) := by decide +kernel
theorem dX6_person_55 : decode cX6_person 55 = .ok (.getfield 13, 3) := by decide +kernel
theorem dX6_person_58 : decode cX6_person 58 = .ok (.aload_n 0, 1) := by decide +kernel
theorem dX6_person_59 : decode cX6_person 59 = .ok (.getfield 85, 3) := by decide +kernel
theorem dX6_person_62 : decode cX6_person 62 = .ok (.iload_n 2, 1) := by decide +kernel
theorem dX6_person_63 : decode cX6_person 63 = .ok (.iastore, 1) := by decide +kernel
theorem dX6_person_64 : decode cX6_person 64 = .ok (.aload_n 0, 1) := by decide +kernel
theorem dX6_person_65 : decode cX6_person 65 = .ok (.getfield 16, 3) := by decide +kernel
theorem dX6_person_68 : decode cX6_person 68 = .ok (.aload_n 0, 1) := by decide +kernel
theorem dX6_person_69 : decode cX6_person 69 = .ok (.getfield 85, 3) := by decide +kernel
theorem dX6_person_72 : decode cX6_person 72 = .ok (.iload_n 3, 1) := by decide +kernel
theorem dX6_person_73 : decode cX6_person 73 = .ok (.iastore, 1) := by decide +kernel
theorem dX6_person_74 : decode cX6_person 74 = .ok (.aload_n 0, 1) := by decide +kernel
theorem dX6_person_75 : decode cX6_person 75 = .ok (.getfield 19, 3) := by decide +kernel
theorem dX6_person_78 : decode cX6_person 78 = .ok (.aload_n 0, 1) := by decide +kernel
theorem dX6_person_79 : decode cX6_person 79 = .ok (.getfield 85, 3) := by decide +kernel
theorem dX6_person_82 : decode cX6_person 82 = .ok (.iconst 0, 1) := by decide +kernel
theorem dX6_person_83 : decode cX6_person 83 = .ok (.iastore, 1) := by decide +kernel
theorem dX6_person_84 : decode cX6_person 84 = .ok (.aload_n 0, 1) := by decide +kernel
theorem dX6_person_85 : decode cX6_person 85 = .ok (.dup, 1) := by decide +kernel
theorem dX6_person_86 : decode cX6_person 86 = .ok (.getfield 85, 3) := by decide +kernel
theorem dX6_person_89 : decode cX6_person 89 = .ok (.dup_x1, 1) := by decide +kernel
theorem dX6_person_90 : decode cX6_person 90 = .ok (.iconst 1, 1) := by decide +kernel
theorem dX6_person_91 : decode cX6_person 91 = .ok (.iadd, 1) := by decide +kernel
theorem dX6_person_92 : decode cX6_person 92 = .ok (.putfield 85, 3) := by decide +kernel
theorem dX6_person_95 : decode cX6_person 95 = .ok (.ireturn, 1) := by decide +kernel
theorem dX6_told_0 : decode cX6_told 0 = .ok (.iload_n 2, 1) := by decide +kernel
theorem dX6_told_1 : decode cX6_told 1 = .ok (.iconst 0, 1) := by decide +kernel
theorem dX6_told_2 : decode cX6_told 2 = .ok (.iconst 4, 1) := by decide +kernel
theorem dX6_told_3 : decode cX6_told 3 = .ok (.invokestatic 88, 3) := by decide +kernel
theorem dX6_told_6 : decode cX6_told 6 = .ok (.ifCond .eq 24, 3) := by decide +kernel
theorem dX6_told_9 : decode cX6_told 9 = .ok (.aload_n 0, 1) := by decide +kernel
theorem dX6_told_10 : decode cX6_told 10 = .ok (.iload_n 2, 1) := by decide +kernel
theorem dX6_told_11 : decode cX6_told 11 = .ok (.iload_n 1, 1) := by decide +kernel
theorem dX6_told_12 : decode cX6_told 12 = .ok (.invokevirtual 102, 3) := by decide +kernel
theorem dX6_told_15 : decode cX6_told 15 = .ok (.ifCond .eq 12, 3) := by decide +kernel
theorem dX6_told_18 : decode cX6_told 18 = .ok (.aload_n 0, 1) := by decide +kernel
theorem dX6_told_19 : decode cX6_told 19 = .ok (.iload_n 2, 1) := by decide +kernel
theorem dX6_told_20 : decode cX6_told 20 = .ok (.iload_n 1, 1) := by decide +kernel
theorem dX6_told_21 : decode cX6_told 21 = .ok (.invokevirtual 106, 3) := by decide +kernel
theorem dX6_told_24 : decode cX6_told 24 = .ok (.goto 5, 3) := by decide +kernel
theorem dX6_told_27 : decode cX6_told 27 = .ok (.bipush (-2), 2) := by decide +kernel
theorem dX6_told_29 : decode cX6_told 29 = .ok (.ireturn, 1) := by decide +kernel
theorem dX6_told_30 : decode cX6_told 30 = .ok (.aload_n 0, 1) := by decide +kernel
theorem dX6_told_31 : decode cX6_told 31 = .ok (.iload_n 1, 1) := by decide +kernel
theorem dX6_told_32 : decode cX6_told 32 = .ok (.invokevirtual 92, 3) := by decide +kernel
theorem dX6_told_35 : decode cX6_told 35 = .ok (.ifCond .ne 6, 3) := by decide +kernel
theorem dX6_told_38 : decode cX6_told 38 = .ok (.bipush (-2), 2) := by decide +kernel
theorem dX6_told_40 : decode cX6_told 40 = .ok (.ireturn, 1) := by decide +kernel
theorem dX6_told_41 : decode cX6_told 41 = .ok (.iload_n 2, 1) := by decide +kernel
theorem dX6_told_42 : decode cX6_told 42 = .ok (.tableswitch 73 5 9 #[34, 41, 47, 61, 67], 34) := by decide +kernel
theorem dX6_told_76 : decode cX6_told 76 = .ok (.aload_n 0, 1) := by decide +kernel
theorem dX6_told_77 : decode cX6_told 77 = .ok (.getfield 7, 3) := by decide +kernel
theorem dX6_told_80 : decode cX6_told 80 = .ok (.iload_n 1, 1) := by decide +kernel
theorem dX6_told_81 : decode cX6_told 81 = .ok (.iaload, 1) := by decide +kernel
theorem dX6_told_82 : decode cX6_told 82 = .ok (.ireturn, 1) := by decide +kernel
theorem dX6_told_83 : decode cX6_told 83 = .ok (.aload_n 0, 1) := by decide +kernel
theorem dX6_told_84 : decode cX6_told 84 = .ok (.iload_n 1, 1) := by decide +kernel
theorem dX6_told_85 : decode cX6_told 85 = .ok (.invokevirtual 110, 3) := by decide +kernel
theorem dX6_told_88 : decode cX6_told 88 = .ok (.ireturn, 1) := by decide +kernel
theorem dX6_told_89 : decode cX6_told 89 = .ok (.aload_n 0, 1) := by decide +kernel
theorem dX6_told_90 : decode cX6_told 90 = .ok (.iload_n 1, 1) := by decide +kernel
theorem dX6_told_91 : decode cX6_told 91 = .ok (.invokevirtual 114, 3) := by decide +kernel
theorem dX6_told_94 : decode cX6_told 94 = .ok (.ifCond .eq 7, 3) := by decide +kernel
theorem dX6_told_97 : decode cX6_told 97 = .ok (.iconst 1, 1) := by decide +kernel
theorem dX6_told_98 : decode cX6_told 98 = .ok (.goto 4, 3) := by decide +kernel
theorem dX6_told_101 : decode cX6_told 101 = .ok (.iconst 0, 1) := by decide +kernel
theorem dX6_told_102 : decode cX6_told 102 = .ok (.ireturn, 1) := by decide +kernel
theorem dX6_told_103 : decode cX6_told 103 = .ok (.aload_n 0, 1) := by decide +kernel
theorem dX6_told_104 : decode cX6_told 104 = .ok (.iload_n 1, 1) := by decide +kernel
theorem dX6_told_105 : decode cX6_told 105 = .ok (.invokevirtual 117, 3) := by decide +kernel
theorem dX6_told_108 : decode cX6_told 108 = .ok (.ireturn, 1) := by decide +kernel
theorem dX6_told_109 : decode cX6_told 109 = .ok (.aload_n 0, 1) := by decide +kernel
theorem dX6_told_110 : decode cX6_told 110 = .ok (.iload_n 1, 1) := by decide +kernel
theorem dX6_told_111 : decode cX6_told 111 = .ok (.invokevirtual 120, 3) := by decide +kernel
theorem dX6_told_114 : decode cX6_told 114 = .ok (.ireturn, 1) := by decide +kernel
theorem dX6_told_115 : decode cX6_told 115 = .ok (.bipush (-2), 2) := by decide +kernel
theorem dX6_told_117 : decode cX6_told 117 = .ok (.ireturn, 1) := by decide +kernel
theorem dX6_feed_0 : decode cX6_feed 0 = .ok (.iload_n 1, 1) := by decide +kernel
theorem dX6_feed_1 : decode cX6_feed 1 = .ok (.iconst 0, 1) := by decide +kernel
theorem dX6_feed_2 : decode cX6_feed 2 = .ok (.sipush 255, 3) := by decide +kernel
theorem dX6_feed_5 : decode cX6_feed 5 = .ok (.invokestatic 88, 3) := by decide +kernel
theorem dX6_feed_8 : decode cX6_feed 8 = .ok (.ifCond .ne 6, 3) := by decide +kernel
theorem dX6_feed_11 : decode cX6_feed 11 = .ok (.bipush (-2), 2) := by decide +kernel
theorem dX6_feed_13 : decode cX6_feed 13 = .ok (.ireturn, 1) := by decide +kernel
theorem dX6_feed_14 : decode cX6_feed 14 = .ok (.aload_n 0, 1) := by decide +kernel
theorem dX6_feed_15 : decode cX6_feed 15 = .ok (.getfield 123, 3) := by decide +kernel
theorem dX6_feed_18 : decode cX6_feed 18 = .ok (.sipush 160, 3) := by decide +kernel
theorem dX6_feed_21 : decode cX6_feed 21 = .ok (.if_icmp .ne 6, 3) := by decide +kernel
theorem dX6_feed_24 : decode cX6_feed 24 = .ok (.bipush (-4), 2) := by decide +kernel
theorem dX6_feed_26 : decode cX6_feed 26 = .ok (.ireturn, 1) := by decide +kernel
theorem dX6_feed_27 : decode cX6_feed 27 = .ok (.aload_n 0, 1) := by decide +kernel
theorem dX6_feed_28 : decode cX6_feed 28 = .ok (.getfield 22, 3) := by decide +kernel
theorem dX6_feed_31 : decode cX6_feed 31 = .ok (.aload_n 0, 1) := by decide +kernel
theorem dX6_feed_32 : decode cX6_feed 32 = .ok (.dup, 1) := by decide +kernel
theorem dX6_feed_33 : decode cX6_feed 33 = .ok (.getfield 123, 3) := by decide +kernel
theorem dX6_feed_36 : decode cX6_feed 36 = .ok (.dup_x1, 1) := by decide +kernel
theorem dX6_feed_37 : decode cX6_feed 37 = .ok (.iconst 1, 1) := by decide +kernel
theorem dX6_feed_38 : decode cX6_feed 38 = .ok (.iadd, 1) := by decide +kernel
theorem dX6_feed_39 : decode cX6_feed 39 = .ok (.putfield 123, 3) := by decide +kernel
theorem dX6_feed_42 : decode cX6_feed 42 = .ok (.iload_n 1, 1) := by decide +kernel
theorem dX6_feed_43 : decode cX6_feed 43 = .ok (.iastore, 1) := by decide +kernel
theorem dX6_feed_44 : decode cX6_feed 44 = .ok (.aload_n 0, 1) := by decide +kernel
theorem dX6_feed_45 : decode cX6_feed 45 = .ok (.getfield 123, 3) := by decide +kernel
theorem dX6_feed_48 : decode cX6_feed 48 = .ok (.ireturn, 1) := by decide +kernel
theorem dX6_isLetter_0 : decode cX6_isLetter 0 = .ok (.iload_n 0, 1) := by decide +kernel
theorem dX6_isLetter_1 : decode cX6_isLetter 1 = .ok (.bipush 97, 2) := by decide +kernel
theorem dX6_isLetter_3 : decode cX6_isLetter 3 = .ok (.if_icmp .lt 13, 3) := by decide +kernel
theorem dX6_isLetter_6 : decode cX6_isLetter 6 = .ok (.iload_n 0, 1) := by decide +kernel
theorem dX6_isLetter_7 : decode cX6_isLetter 7 = .ok (.bipush 122, 2) := by decide +kernel
theorem dX6_isLetter_9 : decode cX6_isLetter 9 = .ok (.if_icmp .gt 7, 3) := by decide +kernel
theorem dX6_isLetter_12 : decode cX6_isLetter 12 = .ok (.iconst 1, 1) := by decide +kernel
theorem dX6_isLetter_13 : decode cX6_isLetter 13 = .ok (.goto 4, 3) := by decide +kernel
theorem dX6_isLetter_16 : decode cX6_isLetter 16 = .ok (.iconst 0, 1) := by decide +kernel
theorem dX6_isLetter_17 : decode cX6_isLetter 17 = .ok (.ireturn, 1) := by decide +kernel
theorem dX6_isDigit_0 : decode cX6_isDigit 0 = .ok (.iload_n 0, 1) := by decide +kernel
theorem dX6_isDigit_1 : decode cX6_isDigit 1 = .ok (.bipush 48, 2) := by decide +kernel
theorem dX6_isDigit_3 : decode cX6_isDigit 3 = .ok (.if_icmp .lt 13, 3) := by decide +kernel
theorem dX6_isDigit_6 : decode cX6_isDigit 6 = .ok (.iload_n 0, 1) := by decide +kernel
theorem dX6_isDigit_7 : decode cX6_isDigit 7 = .ok (.bipush 57, 2) := by decide +kernel
theorem dX6_isDigit_9 : decode cX6_isDigit 9 = .ok (.if_icmp .gt 7, 3) := by decide +kernel
theorem dX6_isDigit_12 : decode cX6_isDigit 12 = .ok (.iconst 1, 1) := by decide +kernel
theorem dX6_isDigit_13 : decode cX6_isDigit 13 = .ok (.goto 4, 3) := by decide +kernel
theorem dX6_isDigit_16 : decode cX6_isDigit 16 = .ok (.iconst 0, 1) := by decide +kernel
theorem dX6_isDigit_17 : decode cX6_isDigit 17 = .ok (.ireturn, 1) := by decide +kernel
theorem dX6_isSign_0 : decode cX6_isSign 0 = .ok (.iload_n 0, 1) := by decide +kernel
theorem dX6_isSign_1 : decode cX6_isSign 1 = .ok (.tableswitch 105 40 61 #[103, 103, 103, 103, 105, 103, 105, 105, 105, 105, 105, 105, 105, 105, 105, 105, 105, 105, 105, 103, 103, 103], 103) := by decide +kernel
theorem dX6_isSign_104 : decode cX6_isSign 104 = .ok (.iconst 1, 1) := by decide +kernel
theorem dX6_isSign_105 : decode cX6_isSign 105 = .ok (.ireturn, 1) := by decide +kernel
theorem dX6_isSign_106 : decode cX6_isSign 106 = .ok (.iconst 0, 1) := by decide +kernel
theorem dX6_isSign_107 : decode cX6_isSign 107 = .ok (.ireturn, 1) := by decide +kernel
theorem dX6_named_0 : decode cX6_named 0 = .ok (.aload_n 0, 1) := by decide +kernel
theorem dX6_named_1 : decode cX6_named 1 = .ok (.getfield 126, 3) := by decide +kernel
theorem dX6_named_4 : decode cX6_named 4 = .ok (.lookupswitch 72 #[(2968, 66), (5863, 68), (13694, 60), (16922, 64), (267347, 70), (212302449, 62)], 60) := by decide +kernel
theorem dX6_named_64 : decode cX6_named 64 = .ok (.iconst 0, 1) := by decide +kernel
theorem dX6_named_65 : decode cX6_named 65 = .ok (.ireturn, 1) := by decide +kernel
theorem dX6_named_66 : decode cX6_named 66 = .ok (.iconst 1, 1) := by decide +kernel
theorem dX6_named_67 : decode cX6_named 67 = .ok (.ireturn, 1) := by decide +kernel
theorem dX6_named_68 : decode cX6_named 68 = .ok (.iconst 2, 1) := by decide +kernel
theorem dX6_named_69 : decode cX6_named 69 = .ok (.ireturn, 1) := by decide +kernel
theorem dX6_named_70 : decode cX6_named 70 = .ok (.iconst 3, 1) := by decide +kernel
theorem dX6_named_71 : decode cX6_named 71 = .ok (.ireturn, 1) := by decide +kernel
theorem dX6_named_72 : decode cX6_named 72 = .ok (.iconst 4, 1) := by decide +kernel
theorem dX6_named_73 : decode cX6_named 73 = .ok (.ireturn, 1) := by decide +kernel
theorem dX6_named_74 : decode cX6_named 74 = .ok (.iconst 5, 1) := by decide +kernel
theorem dX6_named_75 : decode cX6_named 75 = .ok (.ireturn, 1) := by decide +kernel
theorem dX6_named_76 : decode cX6_named 76 = .ok (.iconst (-1), 1) := by decide +kernel
theorem dX6_named_77 : decode cX6_named 77 = .ok (.ireturn, 1) := by decide +kernel
theorem dX6_isKey_0 : decode cX6_isKey 0 = .ok (.aload_n 0, 1) := by decide +kernel
theorem dX6_isKey_1 : decode cX6_isKey 1 = .ok (.getfield 126, 3) := by decide +kernel
theorem dX6_isKey_4 : decode cX6_isKey 4 = .ok (.lookupswitch 62 #[(423, 60), (1111, 60), (10631, 60), (369757, 60), (370000, 60), (1841662, 60)], 60) := by decide +kernel
theorem dX6_isKey_64 : decode cX6_isKey 64 = .ok (.iconst 1, 1) := by decide +kernel
theorem dX6_isKey_65 : decode cX6_isKey 65 = .ok (.ireturn, 1) := by decide +kernel
theorem dX6_isKey_66 : decode cX6_isKey 66 = .ok (.iconst 0, 1) := by decide +kernel
theorem dX6_isKey_67 : decode cX6_isKey 67 = .ok (.ireturn, 1) := by decide +kernel
theorem dX6_next_0 : decode cX6_next 0 = .ok (.aload_n 0, 1) := by decide +kernel
theorem dX6_next_1 : decode cX6_next 1 = .ok (.aload_n 0, 1) := by decide +kernel
theorem dX6_next_2 : decode cX6_next 2 = .ok (.getfield 129, 3) := by decide +kernel
theorem dX6_next_5 : decode cX6_next 5 = .ok (.putfield 132, 3) := by decide +kernel
theorem dX6_next_8 : decode cX6_next 8 = .ok (.aload_n 0, 1) := by decide +kernel
theorem dX6_next_9 : decode cX6_next 9 = .ok (.getfield 132, 3) := by decide +kernel
theorem dX6_next_12 : decode cX6_next 12 = .ok (.aload_n 0, 1) := by decide +kernel
theorem dX6_next_13 : decode cX6_next 13 = .ok (.getfield 123, 3) := by decide +kernel
theorem dX6_next_16 : decode cX6_next 16 = .ok (.if_icmp .ge 44, 3) := by decide +kernel
theorem dX6_next_19 : decode cX6_next 19 = .ok (.aload_n 0, 1) := by decide +kernel
theorem dX6_next_20 : decode cX6_next 20 = .ok (.getfield 22, 3) := by decide +kernel
theorem dX6_next_23 : decode cX6_next 23 = .ok (.aload_n 0, 1) := by decide +kernel
theorem dX6_next_24 : decode cX6_next 24 = .ok (.getfield 132, 3) := by decide +kernel
theorem dX6_next_27 : decode cX6_next 27 = .ok (.iaload, 1) := by decide +kernel
theorem dX6_next_28 : decode cX6_next 28 = .ok (.bipush 32, 2) := by decide +kernel
theorem dX6_next_30 : decode cX6_next 30 = .ok (.if_icmp .eq 17, 3) := by decide +kernel
theorem dX6_next_33 : decode cX6_next 33 = .ok (.aload_n 0, 1) := by decide +kernel
theorem dX6_next_34 : decode cX6_next 34 = .ok (.getfield 22, 3) := by decide +kernel
theorem dX6_next_37 : decode cX6_next 37 = .ok (.aload_n 0, 1) := by decide +kernel
theorem dX6_next_38 : decode cX6_next 38 = .ok (.getfield 132, 3) := by decide +kernel
theorem dX6_next_41 : decode cX6_next 41 = .ok (.iaload, 1) := by decide +kernel
theorem dX6_next_42 : decode cX6_next 42 = .ok (.bipush 10, 2) := by decide +kernel
theorem dX6_next_44 : decode cX6_next 44 = .ok (.if_icmp .ne 16, 3) := by decide +kernel
theorem dX6_next_47 : decode cX6_next 47 = .ok (.aload_n 0, 1) := by decide +kernel
theorem dX6_next_48 : decode cX6_next 48 = .ok (.dup, 1) := by decide +kernel
theorem dX6_next_49 : decode cX6_next 49 = .ok (.getfield 132, 3) := by decide +kernel
theorem dX6_next_52 : decode cX6_next 52 = .ok (.iconst 1, 1) := by decide +kernel
theorem dX6_next_53 : decode cX6_next 53 = .ok (.iadd, 1) := by decide +kernel
theorem dX6_next_54 : decode cX6_next 54 = .ok (.putfield 132, 3) := by decide +kernel
theorem dX6_next_57 : decode cX6_next 57 = .ok (.goto (-49), 3) := by decide +kernel
theorem dX6_next_60 : decode cX6_next 60 = .ok (.aload_n 0, 1) := by decide +kernel
theorem dX6_next_61 : decode cX6_next 61 = .ok (.aload_n 0, 1) := by decide +kernel
theorem dX6_next_62 : decode cX6_next 62 = .ok (.getfield 132, 3) := by decide +kernel
theorem dX6_next_65 : decode cX6_next 65 = .ok (.putfield 129, 3) := by decide +kernel
theorem dX6_next_68 : decode cX6_next 68 = .ok (.aload_n 0, 1) := by decide +kernel
theorem dX6_next_69 : decode cX6_next 69 = .ok (.iconst 0, 1) := by decide +kernel
theorem dX6_next_70 : decode cX6_next 70 = .ok (.putfield 126, 3) := by decide +kernel
theorem dX6_next_73 : decode cX6_next 73 = .ok (.aload_n 0, 1) := by decide +kernel
theorem dX6_next_74 : decode cX6_next 74 = .ok (.getfield 132, 3) := by decide +kernel
theorem dX6_next_77 : decode cX6_next 77 = .ok (.aload_n 0, 1) := by decide +kernel
theorem dX6_next_78 : decode cX6_next 78 = .ok (.getfield 123, 3) := by decide +kernel
theorem dX6_next_81 : decode cX6_next 81 = .ok (.if_icmp .ne 10, 3) := by decide +kernel
theorem dX6_next_84 : decode cX6_next 84 = .ok (.aload_n 0, 1) := by decide +kernel
theorem dX6_next_85 : decode cX6_next 85 = .ok (.bipush 101, 2) := by decide +kernel
theorem dX6_next_87 : decode cX6_next 87 = .ok (.putfield 135, 3) := by decide +kernel
theorem dX6_next_90 : decode cX6_next 90 = .ok (.return_, 1) := by decide +kernel
theorem dX6_next_91 : decode cX6_next 91 = .ok (.aload_n 0, 1) := by decide +kernel
theorem dX6_next_92 : decode cX6_next 92 = .ok (.getfield 22, 3) := by decide +kernel
theorem dX6_next_95 : decode cX6_next 95 = .ok (.aload_n 0, 1) := by decide +kernel
theorem dX6_next_96 : decode cX6_next 96 = .ok (.getfield 132, 3) := by decide +kernel
theorem dX6_next_99 : decode cX6_next 99 = .ok (.iaload, 1) := by decide +kernel
theorem dX6_next_100 : decode cX6_next 100 = .ok (.istore_n 1, 1) := by decide +kernel
theorem dX6_next_101 : decode cX6_next 101 = .ok (.iload_n 1, 1) := by decide +kernel
theorem dX6_next_102 : decode cX6_next 102 = .ok (.invokestatic 138, 3) := by decide +kernel
theorem dX6_next_105 : decode cX6_next 105 = .ok (.ifCond .eq 128, 3) := by decide +kernel
theorem dX6_next_108 : decode cX6_next 108 = .ok (.aload_n 0, 1) := by decide +kernel
theorem dX6_next_109 : decode cX6_next 109 = .ok (.getfield 129, 3) := by decide +kernel
theorem dX6_next_112 : decode cX6_next 112 = .ok (.aload_n 0, 1) := by decide +kernel
theorem dX6_next_113 : decode cX6_next 113 = .ok (.getfield 123, 3) := by decide +kernel
theorem dX6_next_116 : decode cX6_next 116 = .ok (.if_icmp .ge 69, 3) := by decide +kernel
theorem dX6_next_119 : decode cX6_next 119 = .ok (.aload_n 0, 1) := by decide +kernel
theorem dX6_next_120 : decode cX6_next 120 = .ok (.getfield 22, 3) := by decide +kernel
theorem dX6_next_123 : decode cX6_next 123 = .ok (.aload_n 0, 1) := by decide +kernel
theorem dX6_next_124 : decode cX6_next 124 = .ok (.getfield 129, 3) := by decide +kernel
theorem dX6_next_127 : decode cX6_next 127 = .ok (.iaload, 1) := by decide +kernel
theorem dX6_next_128 : decode cX6_next 128 = .ok (.invokestatic 138, 3) := by decide +kernel
theorem dX6_next_131 : decode cX6_next 131 = .ok (.ifCond .eq 54, 3) := by decide +kernel
theorem dX6_next_134 : decode cX6_next 134 = .ok (.aload_n 0, 1) := by decide +kernel
theorem dX6_next_135 : decode cX6_next 135 = .ok (.getfield 129, 3) := by decide +kernel
theorem dX6_next_138 : decode cX6_next 138 = .ok (.aload_n 0, 1) := by decide +kernel
theorem dX6_next_139 : decode cX6_next 139 = .ok (.getfield 132, 3) := by decide +kernel
theorem dX6_next_142 : decode cX6_next 142 = .ok (.isub, 1) := by decide +kernel
theorem dX6_next_143 : decode cX6_next 143 = .ok (.bipush 6, 2) := by decide +kernel
theorem dX6_next_145 : decode cX6_next 145 = .ok (.if_icmp .ge 27, 3) := by decide +kernel
theorem dX6_next_148 : decode cX6_next 148 = .ok (.aload_n 0, 1) := by decide +kernel
theorem dX6_next_149 : decode cX6_next 149 = .ok (.bipush 27, 2) := by decide +kernel
theorem dX6_next_151 : decode cX6_next 151 = .ok (.aload_n 0, 1) := by decide +kernel
theorem dX6_next_152 : decode cX6_next 152 = .ok (.getfield 126, 3) := by decide +kernel
theorem dX6_next_155 : decode cX6_next 155 = .ok (.imul, 1) := by decide +kernel
theorem dX6_next_156 : decode cX6_next 156 = .ok (.aload_n 0, 1) := by decide +kernel
theorem dX6_next_157 : decode cX6_next 157 = .ok (.getfield 22, 3) := by decide +kernel
theorem dX6_next_160 : decode cX6_next 160 = .ok (.aload_n 0, 1) := by decide +kernel
theorem dX6_next_161 : decode cX6_next 161 = .ok (.getfield 129, 3) := by decide +kernel
theorem dX6_next_164 : decode cX6_next 164 = .ok (.iaload, 1) := by decide +kernel
theorem dX6_next_165 : decode cX6_next 165 = .ok (.iadd, 1) := by decide +kernel
theorem dX6_next_166 : decode cX6_next 166 = .ok (.bipush 96, 2) := by decide +kernel
theorem dX6_next_168 : decode cX6_next 168 = .ok (.isub, 1) := by decide +kernel
theorem dX6_next_169 : decode cX6_next 169 = .ok (.putfield 126, 3) := by decide +kernel
theorem dX6_next_172 : decode cX6_next 172 = .ok (.aload_n 0, 1) := by decide +kernel
theorem dX6_next_173 : decode cX6_next 173 = .ok (.dup, 1) := by decide +kernel
theorem dX6_next_174 : decode cX6_next 174 = .ok (.getfield 129, 3) := by decide +kernel
theorem dX6_next_177 : decode cX6_next 177 = .ok (.iconst 1, 1) := by decide +kernel
theorem dX6_next_178 : decode cX6_next 178 = .ok (.iadd, 1) := by decide +kernel
theorem dX6_next_179 : decode cX6_next 179 = .ok (.putfield 129, 3) := by decide +kernel
theorem dX6_next_182 : decode cX6_next 182 = .ok (.goto (-74), 3) := by decide +kernel
theorem dX6_next_185 : decode cX6_next 185 = .ok (.aload_n 0, 1) := by decide +kernel
theorem dX6_next_186 : decode cX6_next 186 = .ok (.getfield 129, 3) := by decide +kernel
theorem dX6_next_189 : decode cX6_next 189 = .ok (.aload_n 0, 1) := by decide +kernel
theorem dX6_next_190 : decode cX6_next 190 = .ok (.getfield 132, 3) := by decide +kernel
theorem dX6_next_193 : decode cX6_next 193 = .ok (.isub, 1) := by decide +kernel
theorem dX6_next_194 : decode cX6_next 194 = .ok (.bipush 6, 2) := by decide +kernel
theorem dX6_next_196 : decode cX6_next 196 = .ok (.if_icmp .le 8, 3) := by decide +kernel
theorem dX6_next_199 : decode cX6_next 199 = .ok (.aload_n 0, 1) := by decide +kernel
theorem dX6_next_200 : decode cX6_next 200 = .ok (.iconst (-1), 1) := by decide +kernel
theorem dX6_next_201 : decode cX6_next 201 = .ok (.putfield 126, 3) := by decide +kernel
theorem dX6_next_204 : decode cX6_next 204 = .ok (.aload_n 0, 1) := by decide +kernel
theorem dX6_next_205 : decode cX6_next 205 = .ok (.aload_n 0, 1) := by decide +kernel
theorem dX6_next_206 : decode cX6_next 206 = .ok (.invokevirtual 141, 3) := by decide +kernel
theorem dX6_next_209 : decode cX6_next 209 = .ok (.iconst (-1), 1) := by decide +kernel
theorem dX6_next_210 : decode cX6_next 210 = .ok (.if_icmp .ne 15, 3) := by decide +kernel
theorem dX6_next_213 : decode cX6_next 213 = .ok (.aload_n 0, 1) := by decide +kernel
theorem dX6_next_214 : decode cX6_next 214 = .ok (.invokevirtual 145, 3) := by decide +kernel
theorem dX6_next_217 : decode cX6_next 217 = .ok (.ifCond .ne 8, 3) := by decide +kernel
theorem dX6_next_220 : decode cX6_next 220 = .ok (.bipush 120, 2) := by decide +kernel
theorem dX6_next_222 : decode cX6_next 222 = .ok (.goto 5, 3) := by decide +kernel
theorem dX6_next_225 : decode cX6_next 225 = .ok (.bipush 119, 2) := by decide +kernel
theorem dX6_next_227 : decode cX6_next 227 = .ok (.putfield 135, 3) := by decide +kernel
theorem dX6_next_230 : decode cX6_next 230 = .ok (.goto 145, 3) := by decide +kernel
theorem dX6_next_233 : decode cX6_next 233 = .ok (.iload_n 1, 1) := by decide +kernel
theorem dX6_next_234 : decode cX6_next 234 = .ok (.invokestatic 149, 3) := by decide +kernel
theorem dX6_next_237 : decode cX6_next 237 = .ok (.ifCond .eq 111, 3) := by decide +kernel
theorem dX6_next_240 : decode cX6_next 240 = .ok (.aload_n 0, 1) := by decide +kernel
theorem dX6_next_241 : decode cX6_next 241 = .ok (.iconst 0, 1) := by decide +kernel
theorem dX6_next_242 : decode cX6_next 242 = .ok (.putfield 152, 3) := by decide +kernel
theorem dX6_next_245 : decode cX6_next 245 = .ok (.aload_n 0, 1) := by decide +kernel
theorem dX6_next_246 : decode cX6_next 246 = .ok (.getfield 129, 3) := by decide +kernel
theorem dX6_next_249 : decode cX6_next 249 = .ok (.aload_n 0, 1) := by decide +kernel
theorem dX6_next_250 : decode cX6_next 250 = .ok (.getfield 123, 3) := by decide +kernel
theorem dX6_next_253 : decode cX6_next 253 = .ok (.if_icmp .ge 68, 3) := by decide +kernel
theorem dX6_next_256 : decode cX6_next 256 = .ok (.aload_n 0, 1) := by decide +kernel
theorem dX6_next_257 : decode cX6_next 257 = .ok (.getfield 22, 3) := by decide +kernel
theorem dX6_next_260 : decode cX6_next 260 = .ok (.aload_n 0, 1) := by decide +kernel
theorem dX6_next_261 : decode cX6_next 261 = .ok (.getfield 129, 3) := by decide +kernel
theorem dX6_next_264 : decode cX6_next 264 = .ok (.iaload, 1) := by decide +kernel
theorem dX6_next_265 : decode cX6_next 265 = .ok (.invokestatic 149, 3) := by decide +kernel
theorem dX6_next_268 : decode cX6_next 268 = .ok (.ifCond .eq 53, 3) := by decide +kernel
theorem dX6_next_271 : decode cX6_next 271 = .ok (.aload_n 0, 1) := by decide +kernel
theorem dX6_next_272 : decode cX6_next 272 = .ok (.getfield 129, 3) := by decide +kernel
theorem dX6_next_275 : decode cX6_next 275 = .ok (.aload_n 0, 1) := by decide +kernel
theorem dX6_next_276 : decode cX6_next 276 = .ok (.getfield 132, 3) := by decide +kernel
theorem dX6_next_279 : decode cX6_next 279 = .ok (.isub, 1) := by decide +kernel
theorem dX6_next_280 : decode cX6_next 280 = .ok (.iconst 4, 1) := by decide +kernel
theorem dX6_next_281 : decode cX6_next 281 = .ok (.if_icmp .ge 27, 3) := by decide +kernel
theorem dX6_next_284 : decode cX6_next 284 = .ok (.aload_n 0, 1) := by decide +kernel
theorem dX6_next_285 : decode cX6_next 285 = .ok (.bipush 10, 2) := by decide +kernel
theorem dX6_next_287 : decode cX6_next 287 = .ok (.aload_n 0, 1) := by decide +kernel
theorem dX6_next_288 : decode cX6_next 288 = .ok (.getfield 152, 3) := by decide +kernel
theorem dX6_next_291 : decode cX6_next 291 = .ok (.imul, 1) := by decide +kernel
theorem dX6_next_292 : decode cX6_next 292 = .ok (.aload_n 0, 1) := by decide +kernel
theorem dX6_next_293 : decode cX6_next 293 = .ok (.getfield 22, 3) := by decide +kernel
theorem dX6_next_296 : decode cX6_next 296 = .ok (.aload_n 0, 1) := by decide +kernel
theorem dX6_next_297 : decode cX6_next 297 = .ok (.getfield 129, 3) := by decide +kernel
theorem dX6_next_300 : decode cX6_next 300 = .ok (.iaload, 1) := by decide +kernel
theorem dX6_next_301 : decode cX6_next 301 = .ok (.iadd, 1) := by decide +kernel
theorem dX6_next_302 : decode cX6_next 302 = .ok (.bipush 48, 2) := by decide +kernel
theorem dX6_next_304 : decode cX6_next 304 = .ok (.isub, 1) := by decide +kernel
theorem dX6_next_305 : decode cX6_next 305 = .ok (.putfield 152, 3) := by decide +kernel
theorem dX6_next_308 : decode cX6_next 308 = .ok (.aload_n 0, 1) := by decide +kernel
theorem dX6_next_309 : decode cX6_next 309 = .ok (.dup, 1) := by decide +kernel
theorem dX6_next_310 : decode cX6_next 310 = .ok (.getfield 129, 3) := by decide +kernel
theorem dX6_next_313 : decode cX6_next 313 = .ok (.iconst 1, 1) := by decide +kernel
theorem dX6_next_314 : decode cX6_next 314 = .ok (.iadd, 1) := by decide +kernel
theorem dX6_next_315 : decode cX6_next 315 = .ok (.putfield 129, 3) := by decide +kernel
theorem dX6_next_318 : decode cX6_next 318 = .ok (.goto (-73), 3) := by decide +kernel
theorem dX6_next_321 : decode cX6_next 321 = .ok (.aload_n 0, 1) := by decide +kernel
theorem dX6_next_322 : decode cX6_next 322 = .ok (.aload_n 0, 1) := by decide +kernel
theorem dX6_next_323 : decode cX6_next 323 = .ok (.getfield 129, 3) := by decide +kernel
theorem dX6_next_326 : decode cX6_next 326 = .ok (.aload_n 0, 1) := by decide +kernel
theorem dX6_next_327 : decode cX6_next 327 = .ok (.getfield 132, 3) := by decide +kernel
theorem dX6_next_330 : decode cX6_next 330 = .ok (.isub, 1) := by decide +kernel
theorem dX6_next_331 : decode cX6_next 331 = .ok (.iconst 4, 1) := by decide +kernel
theorem dX6_next_332 : decode cX6_next 332 = .ok (.if_icmp .le 8, 3) := by decide +kernel
theorem dX6_next_335 : decode cX6_next 335 = .ok (.bipush 120, 2) := by decide +kernel
theorem dX6_next_337 : decode cX6_next 337 = .ok (.goto 5, 3) := by decide +kernel
theorem dX6_next_340 : decode cX6_next 340 = .ok (.bipush 48, 2) := by decide +kernel
theorem dX6_next_342 : decode cX6_next 342 = .ok (.putfield 135, 3) := by decide +kernel
theorem dX6_next_345 : decode cX6_next 345 = .ok (.goto 30, 3) := by decide +kernel
theorem dX6_next_348 : decode cX6_next 348 = .ok (.aload_n 0, 1) := by decide +kernel
theorem dX6_next_349 : decode cX6_next 349 = .ok (.dup, 1) := by decide +kernel
theorem dX6_next_350 : decode cX6_next 350 = .ok (.getfield 129, 3) := by decide +kernel
theorem dX6_next_353 : decode cX6_next 353 = .ok (.iconst 1, 1) := by decide +kernel
theorem dX6_next_354 : decode cX6_next 354 = .ok (.iadd, 1) := by decide +kernel
theorem dX6_next_355 : decode cX6_next 355 = .ok (.putfield 129, 3) := by decide +kernel
theorem dX6_next_358 : decode cX6_next 358 = .ok (.aload_n 0, 1) := by decide +kernel
theorem dX6_next_359 : decode cX6_next 359 = .ok (.iload_n 1, 1) := by decide +kernel
theorem dX6_next_360 : decode cX6_next 360 = .ok (.invokestatic 155, 3) := by decide +kernel
theorem dX6_next_363 : decode cX6_next 363 = .ok (.ifCond .eq 7, 3) := by decide +kernel
theorem dX6_next_366 : decode cX6_next 366 = .ok (.iload_n 1, 1) := by decide +kernel
theorem dX6_next_367 : decode cX6_next 367 = .ok (.goto 5, 3) := by decide +kernel
theorem dX6_next_370 : decode cX6_next 370 = .ok (.bipush 120, 2) := by decide +kernel
theorem dX6_next_372 : decode cX6_next 372 = .ok (.putfield 135, 3) := by decide +kernel
theorem dX6_next_375 : decode cX6_next 375 = .ok (.return_, 1) := by decide +kernel
theorem dX6_takes_0 : decode cX6_takes 0 = .ok (.aload_n 0, 1) := by decide +kernel
theorem dX6_takes_1 : decode cX6_takes 1 = .ok (.getfield 135, 3) := by decide +kernel
theorem dX6_takes_4 : decode cX6_takes 4 = .ok (.bipush 119, 2) := by decide +kernel
theorem dX6_takes_6 : decode cX6_takes 6 = .ok (.if_icmp .ne 11, 3) := by decide +kernel
theorem dX6_takes_9 : decode cX6_takes 9 = .ok (.aload_n 0, 1) := by decide +kernel
theorem dX6_takes_10 : decode cX6_takes 10 = .ok (.getfield 126, 3) := by decide +kernel
theorem dX6_takes_13 : decode cX6_takes 13 = .ok (.iload_n 1, 1) := by decide +kernel
theorem dX6_takes_14 : decode cX6_takes 14 = .ok (.if_icmp .eq 5, 3) := by decide +kernel
theorem dX6_takes_17 : decode cX6_takes 17 = .ok (.iconst 0, 1) := by decide +kernel
theorem dX6_takes_18 : decode cX6_takes 18 = .ok (.ireturn, 1) := by decide +kernel
theorem dX6_takes_19 : decode cX6_takes 19 = .ok (.aload_n 0, 1) := by decide +kernel
theorem dX6_takes_20 : decode cX6_takes 20 = .ok (.invokevirtual 158, 3) := by decide +kernel
theorem dX6_takes_23 : decode cX6_takes 23 = .ok (.iconst 1, 1) := by decide +kernel
theorem dX6_takes_24 : decode cX6_takes 24 = .ok (.ireturn, 1) := by decide +kernel
theorem dX6_codes_0 : decode cX6_codes 0 = .ok (.aload_n 0, 1) := by decide +kernel
theorem dX6_codes_1 : decode cX6_codes 1 = .ok (.getfield 31, 3) := by decide +kernel
theorem dX6_codes_4 : decode cX6_codes 4 = .ok (.aload_n 0, 1) := by decide +kernel
theorem dX6_codes_5 : decode cX6_codes 5 = .ok (.dup, 1) := by decide +kernel
theorem dX6_codes_6 : decode cX6_codes 6 = .ok (.getfield 161, 3) := by decide +kernel
theorem dX6_codes_9 : decode cX6_codes 9 = .ok (.dup_x1, 1) := by decide +kernel
theorem dX6_codes_10 : decode cX6_codes 10 = .ok (.iconst 1, 1) := by decide +kernel
theorem dX6_codes_11 : decode cX6_codes 11 = .ok (.iadd, 1) := by decide +kernel
theorem dX6_codes_12 : decode cX6_codes 12 = .ok (.putfield 161, 3) := by decide +kernel
theorem dX6_codes_15 : decode cX6_codes 15 = .ok (.iload_n 1, 1) := by decide +kernel
theorem dX6_codes_16 : decode cX6_codes 16 = .ok (.iastore, 1) := by decide +kernel
theorem dX6_codes_17 : decode cX6_codes 17 = .ok (.return_, 1) := by decide +kernel
theorem dX6_rank_0 : decode cX6_rank 0 = .ok (.iload_n 0, 1) := by decide +kernel
theorem dX6_rank_1 : decode cX6_rank 1 = .ok (.tableswitch 67 6 14 #[59, 59, 61, 57, 57, 53, 51, 55, 64], 51) := by decide +kernel
theorem dX6_rank_52 : decode cX6_rank 52 = .ok (.iconst 1, 1) := by decide +kernel
theorem dX6_rank_53 : decode cX6_rank 53 = .ok (.ireturn, 1) := by decide +kernel
theorem dX6_rank_54 : decode cX6_rank 54 = .ok (.iconst 2, 1) := by decide +kernel
theorem dX6_rank_55 : decode cX6_rank 55 = .ok (.ireturn, 1) := by decide +kernel
theorem dX6_rank_56 : decode cX6_rank 56 = .ok (.iconst 3, 1) := by decide +kernel
theorem dX6_rank_57 : decode cX6_rank 57 = .ok (.ireturn, 1) := by decide +kernel
theorem dX6_rank_58 : decode cX6_rank 58 = .ok (.iconst 4, 1) := by decide +kernel
theorem dX6_rank_59 : decode cX6_rank 59 = .ok (.ireturn, 1) := by decide +kernel
theorem dX6_rank_60 : decode cX6_rank 60 = .ok (.iconst 5, 1) := by decide +kernel
theorem dX6_rank_61 : decode cX6_rank 61 = .ok (.ireturn, 1) := by decide +kernel
theorem dX6_rank_62 : decode cX6_rank 62 = .ok (.bipush 6, 2) := by decide +kernel
theorem dX6_rank_64 : decode cX6_rank 64 = .ok (.ireturn, 1) := by decide +kernel
theorem dX6_rank_65 : decode cX6_rank 65 = .ok (.bipush 7, 2) := by decide +kernel
theorem dX6_rank_67 : decode cX6_rank 67 = .ok (.ireturn, 1) := by decide +kernel
theorem dX6_rank_68 : decode cX6_rank 68 = .ok (.iconst 0, 1) := by decide +kernel
theorem dX6_rank_69 : decode cX6_rank 69 = .ok (.ireturn, 1) := by decide +kernel
theorem dX6_lays_0 : decode cX6_lays 0 = .ok (.aload_n 0, 1) := by decide +kernel
theorem dX6_lays_1 : decode cX6_lays 1 = .ok (.getfield 164, 3) := by decide +kernel
theorem dX6_lays_4 : decode cX6_lays 4 = .ok (.ifCond .le 85, 3) := by decide +kernel
theorem dX6_lays_7 : decode cX6_lays 7 = .ok (.aload_n 0, 1) := by decide +kernel
theorem dX6_lays_8 : decode cX6_lays 8 = .ok (.getfield 34, 3) := by decide +kernel
theorem dX6_lays_11 : decode cX6_lays 11 = .ok (.aload_n 0, 1) := by decide +kernel
theorem dX6_lays_12 : decode cX6_lays 12 = .ok (.getfield 164, 3) := by decide +kernel
theorem dX6_lays_15 : decode cX6_lays 15 = .ok (.iconst 1, 1) := by decide +kernel
theorem dX6_lays_16 : decode cX6_lays 16 = .ok (.isub, 1) := by decide +kernel
theorem dX6_lays_17 : decode cX6_lays 17 = .ok (.iaload, 1) := by decide +kernel
theorem dX6_lays_18 : decode cX6_lays 18 = .ok (.invokestatic 167, 3) := by decide +kernel
theorem dX6_lays_21 : decode cX6_lays 21 = .ok (.iload_n 1, 1) := by decide +kernel
theorem dX6_lays_22 : decode cX6_lays 22 = .ok (.if_icmp .lt 67, 3) := by decide +kernel
theorem dX6_lays_25 : decode cX6_lays 25 = .ok (.aload_n 0, 1) := by decide +kernel
theorem dX6_lays_26 : decode cX6_lays 26 = .ok (.dup, 1) := by decide +kernel
theorem dX6_lays_27 : decode cX6_lays 27 = .ok (.getfield 164, 3) := by decide +kernel
theorem dX6_lays_30 : decode cX6_lays 30 = .ok (.iconst 1, 1) := by decide +kernel
theorem dX6_lays_31 : decode cX6_lays 31 = .ok (.isub, 1) := by decide +kernel
theorem dX6_lays_32 : decode cX6_lays 32 = .ok (.putfield 164, 3) := by decide +kernel
theorem dX6_lays_35 : decode cX6_lays 35 = .ok (.aload_n 0, 1) := by decide +kernel
theorem dX6_lays_36 : decode cX6_lays 36 = .ok (.aload_n 0, 1) := by decide +kernel
theorem dX6_lays_37 : decode cX6_lays 37 = .ok (.getfield 34, 3) := by decide +kernel
theorem dX6_lays_40 : decode cX6_lays 40 = .ok (.aload_n 0, 1) := by decide +kernel
theorem dX6_lays_41 : decode cX6_lays 41 = .ok (.getfield 164, 3) := by decide +kernel
theorem dX6_lays_44 : decode cX6_lays 44 = .ok (.iaload, 1) := by decide +kernel
theorem dX6_lays_45 : decode cX6_lays 45 = .ok (.invokevirtual 77, 3) := by decide +kernel
theorem dX6_lays_48 : decode cX6_lays 48 = .ok (.aload_n 0, 1) := by decide +kernel
theorem dX6_lays_49 : decode cX6_lays 49 = .ok (.getfield 34, 3) := by decide +kernel
theorem dX6_lays_52 : decode cX6_lays 52 = .ok (.aload_n 0, 1) := by decide +kernel
theorem dX6_lays_53 : decode cX6_lays 53 = .ok (.getfield 164, 3) := by decide +kernel
theorem dX6_lays_56 : decode cX6_lays 56 = .ok (.iaload, 1) := by decide +kernel
theorem dX6_lays_57 : decode cX6_lays 57 = .ok (.bipush 13, 2) := by decide +kernel
theorem dX6_lays_59 : decode cX6_lays 59 = .ok (.if_icmp .eq 17, 3) := by decide +kernel
theorem dX6_lays_62 : decode cX6_lays 62 = .ok (.aload_n 0, 1) := by decide +kernel
theorem dX6_lays_63 : decode cX6_lays 63 = .ok (.getfield 34, 3) := by decide +kernel
theorem dX6_lays_66 : decode cX6_lays 66 = .ok (.aload_n 0, 1) := by decide +kernel
theorem dX6_lays_67 : decode cX6_lays 67 = .ok (.getfield 164, 3) := by decide +kernel
theorem dX6_lays_70 : decode cX6_lays 70 = .ok (.iaload, 1) := by decide +kernel
theorem dX6_lays_71 : decode cX6_lays 71 = .ok (.bipush 14, 2) := by decide +kernel
theorem dX6_lays_73 : decode cX6_lays 73 = .ok (.if_icmp .ne (-73), 3) := by decide +kernel
theorem dX6_lays_76 : decode cX6_lays 76 = .ok (.aload_n 0, 1) := by decide +kernel
theorem dX6_lays_77 : decode cX6_lays 77 = .ok (.dup, 1) := by decide +kernel
theorem dX6_lays_78 : decode cX6_lays 78 = .ok (.getfield 170, 3) := by decide +kernel
theorem dX6_lays_81 : decode cX6_lays 81 = .ok (.iconst 1, 1) := by decide +kernel
theorem dX6_lays_82 : decode cX6_lays 82 = .ok (.isub, 1) := by decide +kernel
theorem dX6_lays_83 : decode cX6_lays 83 = .ok (.putfield 170, 3) := by decide +kernel
theorem dX6_lays_86 : decode cX6_lays 86 = .ok (.goto (-86), 3) := by decide +kernel
theorem dX6_lays_89 : decode cX6_lays 89 = .ok (.return_, 1) := by decide +kernel
theorem dX6_push_0 : decode cX6_push 0 = .ok (.aload_n 0, 1) := by decide +kernel
theorem dX6_push_1 : decode cX6_push 1 = .ok (.getfield 34, 3) := by decide +kernel
theorem dX6_push_4 : decode cX6_push 4 = .ok (.aload_n 0, 1) := by decide +kernel
theorem dX6_push_5 : decode cX6_push 5 = .ok (.dup, 1) := by decide +kernel
theorem dX6_push_6 : decode cX6_push 6 = .ok (.getfield 164, 3) := by decide +kernel
theorem dX6_push_9 : decode cX6_push 9 = .ok (.dup_x1, 1) := by decide +kernel
theorem dX6_push_10 : decode cX6_push 10 = .ok (.iconst 1, 1) := by decide +kernel
theorem dX6_push_11 : decode cX6_push 11 = .ok (.iadd, 1) := by decide +kernel
theorem dX6_push_12 : decode cX6_push 12 = .ok (.putfield 164, 3) := by decide +kernel
theorem dX6_push_15 : decode cX6_push 15 = .ok (.iload_n 1, 1) := by decide +kernel
theorem dX6_push_16 : decode cX6_push 16 = .ok (.iastore, 1) := by decide +kernel
theorem dX6_push_17 : decode cX6_push 17 = .ok (.iload_n 1, 1) := by decide +kernel
theorem dX6_push_18 : decode cX6_push 18 = .ok (.bipush 13, 2) := by decide +kernel
theorem dX6_push_20 : decode cX6_push 20 = .ok (.if_icmp .eq 16, 3) := by decide +kernel
theorem dX6_push_23 : decode cX6_push 23 = .ok (.iload_n 1, 1) := by decide +kernel
theorem dX6_push_24 : decode cX6_push 24 = .ok (.bipush 14, 2) := by decide +kernel
theorem dX6_push_26 : decode cX6_push 26 = .ok (.if_icmp .eq 10, 3) := by decide +kernel
theorem dX6_push_29 : decode cX6_push 29 = .ok (.iload_n 1, 1) := by decide +kernel
theorem dX6_push_30 : decode cX6_push 30 = .ok (.invokestatic 167, 3) := by decide +kernel
theorem dX6_push_33 : decode cX6_push 33 = .ok (.ifCond .ne 13, 3) := by decide +kernel
theorem dX6_push_36 : decode cX6_push 36 = .ok (.aload_n 0, 1) := by decide +kernel
theorem dX6_push_37 : decode cX6_push 37 = .ok (.dup, 1) := by decide +kernel
theorem dX6_push_38 : decode cX6_push 38 = .ok (.getfield 170, 3) := by decide +kernel
theorem dX6_push_41 : decode cX6_push 41 = .ok (.iconst 1, 1) := by decide +kernel
theorem dX6_push_42 : decode cX6_push 42 = .ok (.iadd, 1) := by decide +kernel
theorem dX6_push_43 : decode cX6_push 43 = .ok (.putfield 170, 3) := by decide +kernel
theorem dX6_push_46 : decode cX6_push 46 = .ok (.return_, 1) := by decide +kernel
theorem dX6_one_0 : decode cX6_one 0 = .ok (.aload_n 0, 1) := by decide +kernel
theorem dX6_one_1 : decode cX6_one 1 = .ok (.getfield 135, 3) := by decide +kernel
theorem dX6_one_4 : decode cX6_one 4 = .ok (.bipush 119, 2) := by decide +kernel
theorem dX6_one_6 : decode cX6_one 6 = .ok (.if_icmp .ne 10, 3) := by decide +kernel
theorem dX6_one_9 : decode cX6_one 9 = .ok (.aload_n 0, 1) := by decide +kernel
theorem dX6_one_10 : decode cX6_one 10 = .ok (.invokevirtual 141, 3) := by decide +kernel
theorem dX6_one_13 : decode cX6_one 13 = .ok (.goto 4, 3) := by decide +kernel
theorem dX6_one_16 : decode cX6_one 16 = .ok (.iconst (-1), 1) := by decide +kernel
theorem dX6_one_17 : decode cX6_one 17 = .ok (.istore_n 2, 1) := by decide +kernel
theorem dX6_one_18 : decode cX6_one 18 = .ok (.aload_n 0, 1) := by decide +kernel
theorem dX6_one_19 : decode cX6_one 19 = .ok (.getfield 135, 3) := by decide +kernel
theorem dX6_one_22 : decode cX6_one 22 = .ok (.bipush 48, 2) := by decide +kernel
theorem dX6_one_24 : decode cX6_one 24 = .ok (.if_icmp .eq 8, 3) := by decide +kernel
theorem dX6_one_27 : decode cX6_one 27 = .ok (.iload_n 2, 1) := by decide +kernel
theorem dX6_one_28 : decode cX6_one 28 = .ok (.iconst (-1), 1) := by decide +kernel
theorem dX6_one_29 : decode cX6_one 29 = .ok (.if_icmp .eq 36, 3) := by decide +kernel
theorem dX6_one_32 : decode cX6_one 32 = .ok (.aload_n 0, 1) := by decide +kernel
theorem dX6_one_33 : decode cX6_one 33 = .ok (.iload_n 2, 1) := by decide +kernel
theorem dX6_one_34 : decode cX6_one 34 = .ok (.iconst (-1), 1) := by decide +kernel
theorem dX6_one_35 : decode cX6_one 35 = .ok (.if_icmp .ne 13, 3) := by decide +kernel
theorem dX6_one_38 : decode cX6_one 38 = .ok (.bipush 15, 2) := by decide +kernel
theorem dX6_one_40 : decode cX6_one 40 = .ok (.aload_n 0, 1) := by decide +kernel
theorem dX6_one_41 : decode cX6_one 41 = .ok (.getfield 152, 3) := by decide +kernel
theorem dX6_one_44 : decode cX6_one 44 = .ok (.iadd, 1) := by decide +kernel
theorem dX6_one_45 : decode cX6_one 45 = .ok (.goto 4, 3) := by decide +kernel
theorem dX6_one_48 : decode cX6_one 48 = .ok (.iload_n 2, 1) := by decide +kernel
theorem dX6_one_49 : decode cX6_one 49 = .ok (.invokevirtual 77, 3) := by decide +kernel
theorem dX6_one_52 : decode cX6_one 52 = .ok (.aload_n 0, 1) := by decide +kernel
theorem dX6_one_53 : decode cX6_one 53 = .ok (.bipush 7, 2) := by decide +kernel
theorem dX6_one_55 : decode cX6_one 55 = .ok (.invokevirtual 173, 3) := by decide +kernel
theorem dX6_one_58 : decode cX6_one 58 = .ok (.aload_n 0, 1) := by decide +kernel
theorem dX6_one_59 : decode cX6_one 59 = .ok (.iconst 1, 1) := by decide +kernel
theorem dX6_one_60 : decode cX6_one 60 = .ok (.putfield 176, 3) := by decide +kernel
theorem dX6_one_63 : decode cX6_one 63 = .ok (.iconst 1, 1) := by decide +kernel
theorem dX6_one_64 : decode cX6_one 64 = .ok (.ireturn, 1) := by decide +kernel
theorem dX6_one_65 : decode cX6_one 65 = .ok (.iload_n 1, 1) := by decide +kernel
theorem dX6_one_66 : decode cX6_one 66 = .ok (.ifCond .eq 26, 3) := by decide +kernel
theorem dX6_one_69 : decode cX6_one 69 = .ok (.aload_n 0, 1) := by decide +kernel
theorem dX6_one_70 : decode cX6_one 70 = .ok (.getfield 135, 3) := by decide +kernel
theorem dX6_one_73 : decode cX6_one 73 = .ok (.bipush 119, 2) := by decide +kernel
theorem dX6_one_75 : decode cX6_one 75 = .ok (.if_icmp .ne 17, 3) := by decide +kernel
theorem dX6_one_78 : decode cX6_one 78 = .ok (.aload_n 0, 1) := by decide +kernel
theorem dX6_one_79 : decode cX6_one 79 = .ok (.getfield 126, 3) := by decide +kernel
theorem dX6_one_82 : decode cX6_one 82 = .ok (.sipush 10631, 3) := by decide +kernel
theorem dX6_one_85 : decode cX6_one 85 = .ok (.if_icmp .ne 7, 3) := by decide +kernel
theorem dX6_one_88 : decode cX6_one 88 = .ok (.iconst 1, 1) := by decide +kernel
theorem dX6_one_89 : decode cX6_one 89 = .ok (.goto 4, 3) := by decide +kernel
theorem dX6_one_92 : decode cX6_one 92 = .ok (.iconst 0, 1) := by decide +kernel
theorem dX6_one_93 : decode cX6_one 93 = .ok (.istore_n 3, 1) := by decide +kernel
theorem dX6_one_94 : decode cX6_one 94 = .ok (.iload_n 3, 1) := by decide +kernel
theorem dX6_one_95 : decode cX6_one 95 = .ok (.ifCond .ne 21, 3) := by decide +kernel
theorem dX6_one_98 : decode cX6_one 98 = .ok (.aload_n 0, 1) := by decide +kernel
theorem dX6_one_99 : decode cX6_one 99 = .ok (.getfield 135, 3) := by decide +kernel
theorem dX6_one_102 : decode cX6_one 102 = .ok (.bipush 45, 2) := by decide +kernel
theorem dX6_one_104 : decode cX6_one 104 = .ok (.if_icmp .eq 12, 3) := by decide +kernel
theorem dX6_one_107 : decode cX6_one 107 = .ok (.aload_n 0, 1) := by decide +kernel
theorem dX6_one_108 : decode cX6_one 108 = .ok (.getfield 135, 3) := by decide +kernel
theorem dX6_one_111 : decode cX6_one 111 = .ok (.bipush 40, 2) := by decide +kernel
theorem dX6_one_113 : decode cX6_one 113 = .ok (.if_icmp .ne 11, 3) := by decide +kernel
theorem dX6_one_116 : decode cX6_one 116 = .ok (.aload_n 0, 1) := by decide +kernel
theorem dX6_one_117 : decode cX6_one 117 = .ok (.getfield 170, 3) := by decide +kernel
theorem dX6_one_120 : decode cX6_one 120 = .ok (.iconst 5, 1) := by decide +kernel
theorem dX6_one_121 : decode cX6_one 121 = .ok (.if_icmp .ne 5, 3) := by decide +kernel
theorem dX6_one_124 : decode cX6_one 124 = .ok (.iconst 0, 1) := by decide +kernel
theorem dX6_one_125 : decode cX6_one 125 = .ok (.ireturn, 1) := by decide +kernel
theorem dX6_one_126 : decode cX6_one 126 = .ok (.aload_n 0, 1) := by decide +kernel
theorem dX6_one_127 : decode cX6_one 127 = .ok (.getfield 135, 3) := by decide +kernel
theorem dX6_one_130 : decode cX6_one 130 = .ok (.bipush 40, 2) := by decide +kernel
theorem dX6_one_132 : decode cX6_one 132 = .ok (.if_icmp .ne 28, 3) := by decide +kernel
theorem dX6_one_135 : decode cX6_one 135 = .ok (.aload_n 0, 1) := by decide +kernel
theorem dX6_one_136 : decode cX6_one 136 = .ok (.aload_n 0, 1) := by decide +kernel
theorem dX6_one_137 : decode cX6_one 137 = .ok (.getfield 180, 3) := by decide +kernel
theorem dX6_one_140 : decode cX6_one 140 = .ok (.ifCond .eq 8, 3) := by decide +kernel
theorem dX6_one_143 : decode cX6_one 143 = .ok (.bipush (-2), 2) := by decide +kernel
theorem dX6_one_145 : decode cX6_one 145 = .ok (.goto 4, 3) := by decide +kernel
theorem dX6_one_148 : decode cX6_one 148 = .ok (.iconst (-1), 1) := by decide +kernel
theorem dX6_one_149 : decode cX6_one 149 = .ok (.invokevirtual 183, 3) := by decide +kernel
theorem dX6_one_152 : decode cX6_one 152 = .ok (.aload_n 0, 1) := by decide +kernel
theorem dX6_one_153 : decode cX6_one 153 = .ok (.iconst 0, 1) := by decide +kernel
theorem dX6_one_154 : decode cX6_one 154 = .ok (.putfield 180, 3) := by decide +kernel
theorem dX6_one_157 : decode cX6_one 157 = .ok (.goto 18, 3) := by decide +kernel
theorem dX6_one_160 : decode cX6_one 160 = .ok (.aload_n 0, 1) := by decide +kernel
theorem dX6_one_161 : decode cX6_one 161 = .ok (.iload_n 3, 1) := by decide +kernel
theorem dX6_one_162 : decode cX6_one 162 = .ok (.ifCond .eq 8, 3) := by decide +kernel
theorem dX6_one_165 : decode cX6_one 165 = .ok (.bipush 13, 2) := by decide +kernel
theorem dX6_one_167 : decode cX6_one 167 = .ok (.goto 5, 3) := by decide +kernel
theorem dX6_one_170 : decode cX6_one 170 = .ok (.bipush 14, 2) := by decide +kernel
theorem dX6_one_172 : decode cX6_one 172 = .ok (.invokevirtual 183, 3) := by decide +kernel
theorem dX6_one_175 : decode cX6_one 175 = .ok (.aload_n 0, 1) := by decide +kernel
theorem dX6_one_176 : decode cX6_one 176 = .ok (.aload_n 0, 1) := by decide +kernel
theorem dX6_one_177 : decode cX6_one 177 = .ok (.getfield 135, 3) := by decide +kernel
theorem dX6_one_180 : decode cX6_one 180 = .ok (.bipush 45, 2) := by decide +kernel
theorem dX6_one_182 : decode cX6_one 182 = .ok (.if_icmp .eq 7, 3) := by decide +kernel
theorem dX6_one_185 : decode cX6_one 185 = .ok (.iconst 1, 1) := by decide +kernel
theorem dX6_one_186 : decode cX6_one 186 = .ok (.goto 4, 3) := by decide +kernel
theorem dX6_one_189 : decode cX6_one 189 = .ok (.iconst 0, 1) := by decide +kernel
theorem dX6_one_190 : decode cX6_one 190 = .ok (.putfield 186, 3) := by decide +kernel
theorem dX6_one_193 : decode cX6_one 193 = .ok (.iconst 1, 1) := by decide +kernel
theorem dX6_one_194 : decode cX6_one 194 = .ok (.ireturn, 1) := by decide +kernel
theorem dX6_signed_0 : decode cX6_signed 0 = .ok (.aload_n 0, 1) := by decide +kernel
theorem dX6_signed_1 : decode cX6_signed 1 = .ok (.getfield 135, 3) := by decide +kernel
theorem dX6_signed_4 : decode cX6_signed 4 = .ok (.lookupswitch 129 #[(42, 60), (43, 63), (45, 66), (60, 69), (61, 83), (119, 97)], 60) := by decide +kernel
theorem dX6_signed_64 : decode cX6_signed 64 = .ok (.bipush 8, 2) := by decide +kernel
theorem dX6_signed_66 : decode cX6_signed 66 = .ok (.ireturn, 1) := by decide +kernel
theorem dX6_signed_67 : decode cX6_signed 67 = .ok (.bipush 6, 2) := by decide +kernel
theorem dX6_signed_69 : decode cX6_signed 69 = .ok (.ireturn, 1) := by decide +kernel
theorem dX6_signed_70 : decode cX6_signed 70 = .ok (.bipush 7, 2) := by decide +kernel
theorem dX6_signed_72 : decode cX6_signed 72 = .ok (.ireturn, 1) := by decide +kernel
theorem dX6_signed_73 : decode cX6_signed 73 = .ok (.aload_n 0, 1) := by decide +kernel
theorem dX6_signed_74 : decode cX6_signed 74 = .ok (.getfield 180, 3) := by decide +kernel
theorem dX6_signed_77 : decode cX6_signed 77 = .ok (.ifCond .eq 7, 3) := by decide +kernel
theorem dX6_signed_80 : decode cX6_signed 80 = .ok (.iconst (-1), 1) := by decide +kernel
theorem dX6_signed_81 : decode cX6_signed 81 = .ok (.goto 5, 3) := by decide +kernel
theorem dX6_signed_84 : decode cX6_signed 84 = .ok (.bipush 9, 2) := by decide +kernel
theorem dX6_signed_86 : decode cX6_signed 86 = .ok (.ireturn, 1) := by decide +kernel
theorem dX6_signed_87 : decode cX6_signed 87 = .ok (.aload_n 0, 1) := by decide +kernel
theorem dX6_signed_88 : decode cX6_signed 88 = .ok (.getfield 180, 3) := by decide +kernel
theorem dX6_signed_91 : decode cX6_signed 91 = .ok (.ifCond .eq 7, 3) := by decide +kernel
theorem dX6_signed_94 : decode cX6_signed 94 = .ok (.iconst (-1), 1) := by decide +kernel
theorem dX6_signed_95 : decode cX6_signed 95 = .ok (.goto 5, 3) := by decide +kernel
theorem dX6_signed_98 : decode cX6_signed 98 = .ok (.bipush 10, 2) := by decide +kernel
theorem dX6_signed_100 : decode cX6_signed 100 = .ok (.ireturn, 1) := by decide +kernel
theorem dX6_signed_101 : decode cX6_signed 101 = .ok (.aload_n 0, 1) := by decide +kernel
theorem dX6_signed_102 : decode cX6_signed 102 = .ok (.getfield 126, 3) := by decide +kernel
theorem dX6_signed_105 : decode cX6_signed 105 = .ok (.sipush 1111, 3) := by decide +kernel
theorem dX6_signed_108 : decode cX6_signed 108 = .ok (.if_icmp .ne 8, 3) := by decide +kernel
theorem dX6_signed_111 : decode cX6_signed 111 = .ok (.bipush 11, 2) := by decide +kernel
theorem dX6_signed_113 : decode cX6_signed 113 = .ok (.goto 19, 3) := by decide +kernel
theorem dX6_signed_116 : decode cX6_signed 116 = .ok (.aload_n 0, 1) := by decide +kernel
theorem dX6_signed_117 : decode cX6_signed 117 = .ok (.getfield 126, 3) := by decide +kernel
theorem dX6_signed_120 : decode cX6_signed 120 = .ok (.sipush 423, 3) := by decide +kernel
theorem dX6_signed_123 : decode cX6_signed 123 = .ok (.if_icmp .ne 8, 3) := by decide +kernel
theorem dX6_signed_126 : decode cX6_signed 126 = .ok (.bipush 12, 2) := by decide +kernel
theorem dX6_signed_128 : decode cX6_signed 128 = .ok (.goto 4, 3) := by decide +kernel
theorem dX6_signed_131 : decode cX6_signed 131 = .ok (.iconst (-1), 1) := by decide +kernel
theorem dX6_signed_132 : decode cX6_signed 132 = .ok (.ireturn, 1) := by decide +kernel
theorem dX6_signed_133 : decode cX6_signed 133 = .ok (.iconst (-1), 1) := by decide +kernel
theorem dX6_signed_134 : decode cX6_signed 134 = .ok (.ireturn, 1) := by decide +kernel
theorem dX6_closes_0 : decode cX6_closes 0 = .ok (.aload_n 0, 1) := by decide +kernel
theorem dX6_closes_1 : decode cX6_closes 1 = .ok (.iconst 1, 1) := by decide +kernel
theorem dX6_closes_2 : decode cX6_closes 2 = .ok (.invokevirtual 173, 3) := by decide +kernel
theorem dX6_closes_5 : decode cX6_closes 5 = .ok (.aload_n 0, 1) := by decide +kernel
theorem dX6_closes_6 : decode cX6_closes 6 = .ok (.getfield 164, 3) := by decide +kernel
theorem dX6_closes_9 : decode cX6_closes 9 = .ok (.ifCond .ne 5, 3) := by decide +kernel
theorem dX6_closes_12 : decode cX6_closes 12 = .ok (.iconst 0, 1) := by decide +kernel
theorem dX6_closes_13 : decode cX6_closes 13 = .ok (.ireturn, 1) := by decide +kernel
theorem dX6_closes_14 : decode cX6_closes 14 = .ok (.aload_n 0, 1) := by decide +kernel
theorem dX6_closes_15 : decode cX6_closes 15 = .ok (.dup, 1) := by decide +kernel
theorem dX6_closes_16 : decode cX6_closes 16 = .ok (.getfield 164, 3) := by decide +kernel
theorem dX6_closes_19 : decode cX6_closes 19 = .ok (.iconst 1, 1) := by decide +kernel
theorem dX6_closes_20 : decode cX6_closes 20 = .ok (.isub, 1) := by decide +kernel
theorem dX6_closes_21 : decode cX6_closes 21 = .ok (.putfield 164, 3) := by decide +kernel
theorem dX6_closes_24 : decode cX6_closes 24 = .ok (.aload_n 0, 1) := by decide +kernel
theorem dX6_closes_25 : decode cX6_closes 25 = .ok (.aload_n 0, 1) := by decide +kernel
theorem dX6_closes_26 : decode cX6_closes 26 = .ok (.getfield 34, 3) := by decide +kernel
theorem dX6_closes_29 : decode cX6_closes 29 = .ok (.aload_n 0, 1) := by decide +kernel
theorem dX6_closes_30 : decode cX6_closes 30 = .ok (.getfield 164, 3) := by decide +kernel
theorem dX6_closes_33 : decode cX6_closes 33 = .ok (.iaload, 1) := by decide +kernel
theorem dX6_closes_34 : decode cX6_closes 34 = .ok (.bipush (-2), 2) := by decide +kernel
theorem dX6_closes_36 : decode cX6_closes 36 = .ok (.if_icmp .ne 7, 3) := by decide +kernel
theorem dX6_closes_39 : decode cX6_closes 39 = .ok (.iconst 1, 1) := by decide +kernel
theorem dX6_closes_40 : decode cX6_closes 40 = .ok (.goto 4, 3) := by decide +kernel
theorem dX6_closes_43 : decode cX6_closes 43 = .ok (.iconst 0, 1) := by decide +kernel
theorem dX6_closes_44 : decode cX6_closes 44 = .ok (.putfield 180, 3) := by decide +kernel
theorem dX6_closes_47 : decode cX6_closes 47 = .ok (.aload_n 0, 1) := by decide +kernel
theorem dX6_closes_48 : decode cX6_closes 48 = .ok (.dup, 1) := by decide +kernel
theorem dX6_closes_49 : decode cX6_closes 49 = .ok (.getfield 170, 3) := by decide +kernel
theorem dX6_closes_52 : decode cX6_closes 52 = .ok (.iconst 1, 1) := by decide +kernel
theorem dX6_closes_53 : decode cX6_closes 53 = .ok (.isub, 1) := by decide +kernel
theorem dX6_closes_54 : decode cX6_closes 54 = .ok (.putfield 170, 3) := by decide +kernel
theorem dX6_closes_57 : decode cX6_closes 57 = .ok (.aload_n 0, 1) := by decide +kernel
theorem dX6_closes_58 : decode cX6_closes 58 = .ok (.bipush 7, 2) := by decide +kernel
theorem dX6_closes_60 : decode cX6_closes 60 = .ok (.invokevirtual 173, 3) := by decide +kernel
theorem dX6_closes_63 : decode cX6_closes 63 = .ok (.iconst 1, 1) := by decide +kernel
theorem dX6_closes_64 : decode cX6_closes 64 = .ok (.ireturn, 1) := by decide +kernel
theorem dX6_goesOn_0 : decode cX6_goesOn 0 = .ok (.aload_n 0, 1) := by decide +kernel
theorem dX6_goesOn_1 : decode cX6_goesOn 1 = .ok (.getfield 176, 3) := by decide +kernel
theorem dX6_goesOn_4 : decode cX6_goesOn 4 = .ok (.ifCond .ne 12, 3) := by decide +kernel
theorem dX6_goesOn_7 : decode cX6_goesOn 7 = .ok (.aload_n 0, 1) := by decide +kernel
theorem dX6_goesOn_8 : decode cX6_goesOn 8 = .ok (.aload_n 0, 1) := by decide +kernel
theorem dX6_goesOn_9 : decode cX6_goesOn 9 = .ok (.getfield 186, 3) := by decide +kernel
theorem dX6_goesOn_12 : decode cX6_goesOn 12 = .ok (.invokevirtual 189, 3) := by decide +kernel
theorem dX6_goesOn_15 : decode cX6_goesOn 15 = .ok (.ireturn, 1) := by decide +kernel
theorem dX6_goesOn_16 : decode cX6_goesOn 16 = .ok (.aload_n 0, 1) := by decide +kernel
theorem dX6_goesOn_17 : decode cX6_goesOn 17 = .ok (.getfield 135, 3) := by decide +kernel
theorem dX6_goesOn_20 : decode cX6_goesOn 20 = .ok (.bipush 41, 2) := by decide +kernel
theorem dX6_goesOn_22 : decode cX6_goesOn 22 = .ok (.if_icmp .ne 8, 3) := by decide +kernel
theorem dX6_goesOn_25 : decode cX6_goesOn 25 = .ok (.aload_n 0, 1) := by decide +kernel
theorem dX6_goesOn_26 : decode cX6_goesOn 26 = .ok (.invokevirtual 193, 3) := by decide +kernel
theorem dX6_goesOn_29 : decode cX6_goesOn 29 = .ok (.ireturn, 1) := by decide +kernel
theorem dX6_goesOn_30 : decode cX6_goesOn 30 = .ok (.aload_n 0, 1) := by decide +kernel
theorem dX6_goesOn_31 : decode cX6_goesOn 31 = .ok (.invokevirtual 196, 3) := by decide +kernel
theorem dX6_goesOn_34 : decode cX6_goesOn 34 = .ok (.istore_n 1, 1) := by decide +kernel
theorem dX6_goesOn_35 : decode cX6_goesOn 35 = .ok (.iload_n 1, 1) := by decide +kernel
theorem dX6_goesOn_36 : decode cX6_goesOn 36 = .ok (.iconst (-1), 1) := by decide +kernel
theorem dX6_goesOn_37 : decode cX6_goesOn 37 = .ok (.if_icmp .ne 5, 3) := by decide +kernel
theorem dX6_goesOn_40 : decode cX6_goesOn 40 = .ok (.iconst 0, 1) := by decide +kernel
theorem dX6_goesOn_41 : decode cX6_goesOn 41 = .ok (.ireturn, 1) := by decide +kernel
theorem dX6_goesOn_42 : decode cX6_goesOn 42 = .ok (.aload_n 0, 1) := by decide +kernel
theorem dX6_goesOn_43 : decode cX6_goesOn 43 = .ok (.iload_n 1, 1) := by decide +kernel
theorem dX6_goesOn_44 : decode cX6_goesOn 44 = .ok (.invokestatic 167, 3) := by decide +kernel
theorem dX6_goesOn_47 : decode cX6_goesOn 47 = .ok (.invokevirtual 173, 3) := by decide +kernel
theorem dX6_goesOn_50 : decode cX6_goesOn 50 = .ok (.aload_n 0, 1) := by decide +kernel
theorem dX6_goesOn_51 : decode cX6_goesOn 51 = .ok (.iload_n 1, 1) := by decide +kernel
theorem dX6_goesOn_52 : decode cX6_goesOn 52 = .ok (.invokevirtual 183, 3) := by decide +kernel
theorem dX6_goesOn_55 : decode cX6_goesOn 55 = .ok (.aload_n 0, 1) := by decide +kernel
theorem dX6_goesOn_56 : decode cX6_goesOn 56 = .ok (.iconst 0, 1) := by decide +kernel
theorem dX6_goesOn_57 : decode cX6_goesOn 57 = .ok (.putfield 176, 3) := by decide +kernel
theorem dX6_goesOn_60 : decode cX6_goesOn 60 = .ok (.aload_n 0, 1) := by decide +kernel
theorem dX6_goesOn_61 : decode cX6_goesOn 61 = .ok (.iload_n 1, 1) := by decide +kernel
theorem dX6_goesOn_62 : decode cX6_goesOn 62 = .ok (.invokestatic 167, 3) := by decide +kernel
theorem dX6_goesOn_65 : decode cX6_goesOn 65 = .ok (.iconst 3, 1) := by decide +kernel
theorem dX6_goesOn_66 : decode cX6_goesOn 66 = .ok (.if_icmp .ge 7, 3) := by decide +kernel
theorem dX6_goesOn_69 : decode cX6_goesOn 69 = .ok (.iconst 1, 1) := by decide +kernel
theorem dX6_goesOn_70 : decode cX6_goesOn 70 = .ok (.goto 4, 3) := by decide +kernel
theorem dX6_goesOn_73 : decode cX6_goesOn 73 = .ok (.iconst 0, 1) := by decide +kernel
theorem dX6_goesOn_74 : decode cX6_goesOn 74 = .ok (.putfield 186, 3) := by decide +kernel
theorem dX6_goesOn_77 : decode cX6_goesOn 77 = .ok (.aload_n 0, 1) := by decide +kernel
theorem dX6_goesOn_78 : decode cX6_goesOn 78 = .ok (.getfield 186, 3) := by decide +kernel
theorem dX6_goesOn_81 : decode cX6_goesOn 81 = .ok (.ifCond .eq 11, 3) := by decide +kernel
theorem dX6_goesOn_84 : decode cX6_goesOn 84 = .ok (.aload_n 0, 1) := by decide +kernel
theorem dX6_goesOn_85 : decode cX6_goesOn 85 = .ok (.iconst 0, 1) := by decide +kernel
theorem dX6_goesOn_86 : decode cX6_goesOn 86 = .ok (.putfield 180, 3) := by decide +kernel
theorem dX6_goesOn_89 : decode cX6_goesOn 89 = .ok (.goto 16, 3) := by decide +kernel
theorem dX6_goesOn_92 : decode cX6_goesOn 92 = .ok (.iload_n 1, 1) := by decide +kernel
theorem dX6_goesOn_93 : decode cX6_goesOn 93 = .ok (.invokestatic 167, 3) := by decide +kernel
theorem dX6_goesOn_96 : decode cX6_goesOn 96 = .ok (.iconst 4, 1) := by decide +kernel
theorem dX6_goesOn_97 : decode cX6_goesOn 97 = .ok (.if_icmp .ne 8, 3) := by decide +kernel
theorem dX6_goesOn_100 : decode cX6_goesOn 100 = .ok (.aload_n 0, 1) := by decide +kernel
theorem dX6_goesOn_101 : decode cX6_goesOn 101 = .ok (.iconst 1, 1) := by decide +kernel
theorem dX6_goesOn_102 : decode cX6_goesOn 102 = .ok (.putfield 180, 3) := by decide +kernel
theorem dX6_goesOn_105 : decode cX6_goesOn 105 = .ok (.iconst 1, 1) := by decide +kernel
theorem dX6_goesOn_106 : decode cX6_goesOn 106 = .ok (.ireturn, 1) := by decide +kernel
theorem dX6_part_0 : decode cX6_part 0 = .ok (.aload_n 0, 1) := by decide +kernel
theorem dX6_part_1 : decode cX6_part 1 = .ok (.iload_n 2, 1) := by decide +kernel
theorem dX6_part_2 : decode cX6_part 2 = .ok (.invokevirtual 199, 3) := by decide +kernel
theorem dX6_part_5 : decode cX6_part 5 = .ok (.ifCond .ne 5, 3) := by decide +kernel
theorem dX6_part_8 : decode cX6_part 8 = .ok (.iconst 0, 1) := by decide +kernel
theorem dX6_part_9 : decode cX6_part 9 = .ok (.ireturn, 1) := by decide +kernel
theorem dX6_part_10 : decode cX6_part 10 = .ok (.aload_n 0, 1) := by decide +kernel
theorem dX6_part_11 : decode cX6_part 11 = .ok (.getfield 25, 3) := by decide +kernel
theorem dX6_part_14 : decode cX6_part 14 = .ok (.iload_n 1, 1) := by decide +kernel
theorem dX6_part_15 : decode cX6_part 15 = .ok (.aload_n 0, 1) := by decide +kernel
theorem dX6_part_16 : decode cX6_part 16 = .ok (.getfield 161, 3) := by decide +kernel
theorem dX6_part_19 : decode cX6_part 19 = .ok (.iastore, 1) := by decide +kernel
theorem dX6_part_20 : decode cX6_part 20 = .ok (.aload_n 0, 1) := by decide +kernel
theorem dX6_part_21 : decode cX6_part 21 = .ok (.iconst 0, 1) := by decide +kernel
theorem dX6_part_22 : decode cX6_part 22 = .ok (.putfield 164, 3) := by decide +kernel
theorem dX6_part_25 : decode cX6_part 25 = .ok (.aload_n 0, 1) := by decide +kernel
theorem dX6_part_26 : decode cX6_part 26 = .ok (.iconst 0, 1) := by decide +kernel
theorem dX6_part_27 : decode cX6_part 27 = .ok (.putfield 170, 3) := by decide +kernel
theorem dX6_part_30 : decode cX6_part 30 = .ok (.aload_n 0, 1) := by decide +kernel
theorem dX6_part_31 : decode cX6_part 31 = .ok (.iconst 0, 1) := by decide +kernel
theorem dX6_part_32 : decode cX6_part 32 = .ok (.putfield 180, 3) := by decide +kernel
theorem dX6_part_35 : decode cX6_part 35 = .ok (.aload_n 0, 1) := by decide +kernel
theorem dX6_part_36 : decode cX6_part 36 = .ok (.iconst 0, 1) := by decide +kernel
theorem dX6_part_37 : decode cX6_part 37 = .ok (.putfield 176, 3) := by decide +kernel
theorem dX6_part_40 : decode cX6_part 40 = .ok (.aload_n 0, 1) := by decide +kernel
theorem dX6_part_41 : decode cX6_part 41 = .ok (.iconst 1, 1) := by decide +kernel
theorem dX6_part_42 : decode cX6_part 42 = .ok (.putfield 186, 3) := by decide +kernel
theorem dX6_part_45 : decode cX6_part 45 = .ok (.aload_n 0, 1) := by decide +kernel
theorem dX6_part_46 : decode cX6_part 46 = .ok (.getfield 176, 3) := by decide +kernel
theorem dX6_part_49 : decode cX6_part 49 = .ok (.ifCond .eq 12, 3) := by decide +kernel
theorem dX6_part_52 : decode cX6_part 52 = .ok (.aload_n 0, 1) := by decide +kernel
theorem dX6_part_53 : decode cX6_part 53 = .ok (.getfield 135, 3) := by decide +kernel
theorem dX6_part_56 : decode cX6_part 56 = .ok (.bipush 59, 2) := by decide +kernel
theorem dX6_part_58 : decode cX6_part 58 = .ok (.if_icmp .eq 19, 3) := by decide +kernel
theorem dX6_part_61 : decode cX6_part 61 = .ok (.aload_n 0, 1) := by decide +kernel
theorem dX6_part_62 : decode cX6_part 62 = .ok (.invokevirtual 202, 3) := by decide +kernel
theorem dX6_part_65 : decode cX6_part 65 = .ok (.ifCond .ne 5, 3) := by decide +kernel
theorem dX6_part_68 : decode cX6_part 68 = .ok (.iconst 0, 1) := by decide +kernel
theorem dX6_part_69 : decode cX6_part 69 = .ok (.ireturn, 1) := by decide +kernel
theorem dX6_part_70 : decode cX6_part 70 = .ok (.aload_n 0, 1) := by decide +kernel
theorem dX6_part_71 : decode cX6_part 71 = .ok (.invokevirtual 158, 3) := by decide +kernel
theorem dX6_part_74 : decode cX6_part 74 = .ok (.goto (-29), 3) := by decide +kernel
theorem dX6_part_77 : decode cX6_part 77 = .ok (.aload_n 0, 1) := by decide +kernel
theorem dX6_part_78 : decode cX6_part 78 = .ok (.iconst 1, 1) := by decide +kernel
theorem dX6_part_79 : decode cX6_part 79 = .ok (.invokevirtual 173, 3) := by decide +kernel
theorem dX6_part_82 : decode cX6_part 82 = .ok (.aload_n 0, 1) := by decide +kernel
theorem dX6_part_83 : decode cX6_part 83 = .ok (.getfield 164, 3) := by decide +kernel
theorem dX6_part_86 : decode cX6_part 86 = .ok (.ifCond .le 5, 3) := by decide +kernel
theorem dX6_part_89 : decode cX6_part 89 = .ok (.iconst 0, 1) := by decide +kernel
theorem dX6_part_90 : decode cX6_part 90 = .ok (.ireturn, 1) := by decide +kernel
theorem dX6_part_91 : decode cX6_part 91 = .ok (.aload_n 0, 1) := by decide +kernel
theorem dX6_part_92 : decode cX6_part 92 = .ok (.getfield 28, 3) := by decide +kernel
theorem dX6_part_95 : decode cX6_part 95 = .ok (.iload_n 1, 1) := by decide +kernel
theorem dX6_part_96 : decode cX6_part 96 = .ok (.aload_n 0, 1) := by decide +kernel
theorem dX6_part_97 : decode cX6_part 97 = .ok (.getfield 161, 3) := by decide +kernel
theorem dX6_part_100 : decode cX6_part 100 = .ok (.aload_n 0, 1) := by decide +kernel
theorem dX6_part_101 : decode cX6_part 101 = .ok (.getfield 25, 3) := by decide +kernel
theorem dX6_part_104 : decode cX6_part 104 = .ok (.iload_n 1, 1) := by decide +kernel
theorem dX6_part_105 : decode cX6_part 105 = .ok (.iaload, 1) := by decide +kernel
theorem dX6_part_106 : decode cX6_part 106 = .ok (.isub, 1) := by decide +kernel
theorem dX6_part_107 : decode cX6_part 107 = .ok (.iastore, 1) := by decide +kernel
theorem dX6_part_108 : decode cX6_part 108 = .ok (.aload_n 0, 1) := by decide +kernel
theorem dX6_part_109 : decode cX6_part 109 = .ok (.invokevirtual 158, 3) := by decide +kernel
theorem dX6_part_112 : decode cX6_part 112 = .ok (.iconst 1, 1) := by decide +kernel
theorem dX6_part_113 : decode cX6_part 113 = .ok (.ireturn, 1) := by decide +kernel
theorem dX6_text_0 : decode cX6_text 0 = .ok (.aload_n 0, 1) := by decide +kernel
theorem dX6_text_1 : decode cX6_text 1 = .ok (.getfield 81, 3) := by decide +kernel
theorem dX6_text_4 : decode cX6_text 4 = .ok (.bipush 6, 2) := by decide +kernel
theorem dX6_text_6 : decode cX6_text 6 = .ok (.if_icmp .ne 6, 3) := by decide +kernel
theorem dX6_text_9 : decode cX6_text 9 = .ok (.bipush (-4), 2) := by decide +kernel
theorem dX6_text_11 : decode cX6_text 11 = .ok (.ireturn, 1) := by decide +kernel
theorem dX6_text_12 : decode cX6_text 12 = .ok (.aload_n 0, 1) := by decide +kernel
theorem dX6_text_13 : decode cX6_text 13 = .ok (.getfield 161, 3) := by decide +kernel
theorem dX6_text_16 : decode cX6_text 16 = .ok (.istore_n 1, 1) := by decide +kernel
theorem dX6_text_17 : decode cX6_text 17 = .ok (.aload_n 0, 1) := by decide +kernel
theorem dX6_text_18 : decode cX6_text 18 = .ok (.iconst 0, 1) := by decide +kernel
theorem dX6_text_19 : decode cX6_text 19 = .ok (.putfield 129, 3) := by decide +kernel
theorem dX6_text_22 : decode cX6_text 22 = .ok (.aload_n 0, 1) := by decide +kernel
theorem dX6_text_23 : decode cX6_text 23 = .ok (.invokevirtual 158, 3) := by decide +kernel
theorem dX6_text_26 : decode cX6_text 26 = .ok (.aload_n 0, 1) := by decide +kernel
theorem dX6_text_27 : decode cX6_text 27 = .ok (.iconst 3, 1) := by decide +kernel
theorem dX6_text_28 : decode cX6_text 28 = .ok (.aload_n 0, 1) := by decide +kernel
theorem dX6_text_29 : decode cX6_text 29 = .ok (.getfield 81, 3) := by decide +kernel
theorem dX6_text_32 : decode cX6_text 32 = .ok (.imul, 1) := by decide +kernel
theorem dX6_text_33 : decode cX6_text 33 = .ok (.ldc 205, 2) := by decide +kernel
theorem dX6_text_35 : decode cX6_text 35 = .ok (.invokevirtual 206, 3) := by decide +kernel
theorem dX6_text_38 : decode cX6_text 38 = .ok (.ifCond .eq 50, 3) := by decide +kernel
theorem dX6_text_41 : decode cX6_text 41 = .ok (.aload_n 0, 1) := by decide +kernel
theorem dX6_text_42 : decode cX6_text 42 = .ok (.iconst 3, 1) := by decide +kernel
theorem dX6_text_43 : decode cX6_text 43 = .ok (.aload_n 0, 1) := by decide +kernel
theorem dX6_text_44 : decode cX6_text 44 = .ok (.getfield 81, 3) := by decide +kernel
theorem dX6_text_47 : decode cX6_text 47 = .ok (.imul, 1) := by decide +kernel
theorem dX6_text_48 : decode cX6_text 48 = .ok (.iconst 1, 1) := by decide +kernel
theorem dX6_text_49 : decode cX6_text 49 = .ok (.iadd, 1) := by decide +kernel
theorem dX6_text_50 : decode cX6_text 50 = .ok (.ldc 209, 2) := by decide +kernel
theorem dX6_text_52 : decode cX6_text 52 = .ok (.invokevirtual 206, 3) := by decide +kernel
theorem dX6_text_55 : decode cX6_text 55 = .ok (.ifCond .eq 33, 3) := by decide +kernel
theorem dX6_text_58 : decode cX6_text 58 = .ok (.aload_n 0, 1) := by decide +kernel
theorem dX6_text_59 : decode cX6_text 59 = .ok (.iconst 3, 1) := by decide +kernel
theorem dX6_text_60 : decode cX6_text 60 = .ok (.aload_n 0, 1) := by decide +kernel
theorem dX6_text_61 : decode cX6_text 61 = .ok (.getfield 81, 3) := by decide +kernel
theorem dX6_text_64 : decode cX6_text 64 = .ok (.imul, 1) := by decide +kernel
theorem dX6_text_65 : decode cX6_text 65 = .ok (.iconst 2, 1) := by decide +kernel
theorem dX6_text_66 : decode cX6_text 66 = .ok (.iadd, 1) := by decide +kernel
theorem dX6_text_67 : decode cX6_text 67 = .ok (.ldc 210, 2) := by decide +kernel
theorem dX6_text_69 : decode cX6_text 69 = .ok (.invokevirtual 206, 3) := by decide +kernel
theorem dX6_text_72 : decode cX6_text 72 = .ok (.ifCond .eq 16, 3) := by decide +kernel
theorem dX6_text_75 : decode cX6_text 75 = .ok (.aload_n 0, 1) := by decide +kernel
theorem dX6_text_76 : decode cX6_text 76 = .ok (.getfield 135, 3) := by decide +kernel
theorem dX6_text_79 : decode cX6_text 79 = .ok (.bipush 101, 2) := by decide +kernel
theorem dX6_text_81 : decode cX6_text 81 = .ok (.if_icmp .ne 7, 3) := by decide +kernel
theorem dX6_text_84 : decode cX6_text 84 = .ok (.iconst 1, 1) := by decide +kernel
theorem dX6_text_85 : decode cX6_text 85 = .ok (.goto 4, 3) := by decide +kernel
theorem dX6_text_88 : decode cX6_text 88 = .ok (.iconst 0, 1) := by decide +kernel
theorem dX6_text_89 : decode cX6_text 89 = .ok (.istore_n 2, 1) := by decide +kernel
theorem dX6_text_90 : decode cX6_text 90 = .ok (.aload_n 0, 1) := by decide +kernel
theorem dX6_text_91 : decode cX6_text 91 = .ok (.iconst 0, 1) := by decide +kernel
theorem dX6_text_92 : decode cX6_text 92 = .ok (.putfield 123, 3) := by decide +kernel
theorem dX6_text_95 : decode cX6_text 95 = .ok (.iload_n 2, 1) := by decide +kernel
theorem dX6_text_96 : decode cX6_text 96 = .ok (.ifCond .eq 15, 3) := by decide +kernel
theorem dX6_text_99 : decode cX6_text 99 = .ok (.aload_n 0, 1) := by decide +kernel
theorem dX6_text_100 : decode cX6_text 100 = .ok (.dup, 1) := by decide +kernel
theorem dX6_text_101 : decode cX6_text 101 = .ok (.getfield 81, 3) := by decide +kernel
theorem dX6_text_104 : decode cX6_text 104 = .ok (.dup_x1, 1) := by decide +kernel
theorem dX6_text_105 : decode cX6_text 105 = .ok (.iconst 1, 1) := by decide +kernel
theorem dX6_text_106 : decode cX6_text 106 = .ok (.iadd, 1) := by decide +kernel
theorem dX6_text_107 : decode cX6_text 107 = .ok (.putfield 81, 3) := by decide +kernel
theorem dX6_text_110 : decode cX6_text 110 = .ok (.ireturn, 1) := by decide +kernel
theorem dX6_text_111 : decode cX6_text 111 = .ok (.aload_n 0, 1) := by decide +kernel
theorem dX6_text_112 : decode cX6_text 112 = .ok (.iload_n 1, 1) := by decide +kernel
theorem dX6_text_113 : decode cX6_text 113 = .ok (.putfield 161, 3) := by decide +kernel
theorem dX6_text_116 : decode cX6_text 116 = .ok (.bipush (-100), 2) := by decide +kernel
theorem dX6_text_118 : decode cX6_text 118 = .ok (.aload_n 0, 1) := by decide +kernel
theorem dX6_text_119 : decode cX6_text 119 = .ok (.getfield 132, 3) := by decide +kernel
theorem dX6_text_122 : decode cX6_text 122 = .ok (.isub, 1) := by decide +kernel
theorem dX6_text_123 : decode cX6_text 123 = .ok (.ireturn, 1) := by decide +kernel
theorem dX6_force_0 : decode cX6_force 0 = .ok (.iload_n 1, 1) := by decide +kernel
theorem dX6_force_1 : decode cX6_force 1 = .ok (.iconst 0, 1) := by decide +kernel
theorem dX6_force_2 : decode cX6_force 2 = .ok (.aload_n 0, 1) := by decide +kernel
theorem dX6_force_3 : decode cX6_force 3 = .ok (.getfield 81, 3) := by decide +kernel
theorem dX6_force_6 : decode cX6_force 6 = .ok (.iconst 1, 1) := by decide +kernel
theorem dX6_force_7 : decode cX6_force 7 = .ok (.isub, 1) := by decide +kernel
theorem dX6_force_8 : decode cX6_force 8 = .ok (.invokestatic 88, 3) := by decide +kernel
theorem dX6_force_11 : decode cX6_force 11 = .ok (.ifCond .ne 6, 3) := by decide +kernel
theorem dX6_force_14 : decode cX6_force 14 = .ok (.bipush (-2), 2) := by decide +kernel
theorem dX6_force_16 : decode cX6_force 16 = .ok (.ireturn, 1) := by decide +kernel
theorem dX6_force_17 : decode cX6_force 17 = .ok (.aload_n 0, 1) := by decide +kernel
theorem dX6_force_18 : decode cX6_force 18 = .ok (.getfield 211, 3) := by decide +kernel
theorem dX6_force_21 : decode cX6_force 21 = .ok (.istore_n 2, 1) := by decide +kernel
theorem dX6_force_22 : decode cX6_force 22 = .ok (.aload_n 0, 1) := by decide +kernel
theorem dX6_force_23 : decode cX6_force 23 = .ok (.iload_n 1, 1) := by decide +kernel
theorem dX6_force_24 : decode cX6_force 24 = .ok (.putfield 211, 3) := by decide +kernel
theorem dX6_force_27 : decode cX6_force 27 = .ok (.iload_n 2, 1) := by decide +kernel
theorem dX6_force_28 : decode cX6_force 28 = .ok (.ireturn, 1) := by decide +kernel
theorem dX6_ruled_0 : decode cX6_ruled 0 = .ok (.iconst 0, 1) := by decide +kernel
theorem dX6_ruled_1 : decode cX6_ruled 1 = .ok (.istore_n 2, 1) := by decide +kernel
theorem dX6_ruled_2 : decode cX6_ruled 2 = .ok (.aload_n 0, 1) := by decide +kernel
theorem dX6_ruled_3 : decode cX6_ruled 3 = .ok (.getfield 25, 3) := by decide +kernel
theorem dX6_ruled_6 : decode cX6_ruled 6 = .ok (.iconst 3, 1) := by decide +kernel
theorem dX6_ruled_7 : decode cX6_ruled 7 = .ok (.aload_n 0, 1) := by decide +kernel
theorem dX6_ruled_8 : decode cX6_ruled 8 = .ok (.getfield 211, 3) := by decide +kernel
theorem dX6_ruled_11 : decode cX6_ruled 11 = .ok (.imul, 1) := by decide +kernel
theorem dX6_ruled_12 : decode cX6_ruled 12 = .ok (.iload_n 1, 1) := by decide +kernel
theorem dX6_ruled_13 : decode cX6_ruled 13 = .ok (.iadd, 1) := by decide +kernel
theorem dX6_ruled_14 : decode cX6_ruled 14 = .ok (.iaload, 1) := by decide +kernel
theorem dX6_ruled_15 : decode cX6_ruled 15 = .ok (.istore_n 3, 1) := by decide +kernel
theorem dX6_ruled_16 : decode cX6_ruled 16 = .ok (.iload_n 3, 1) := by decide +kernel
theorem dX6_ruled_17 : decode cX6_ruled 17 = .ok (.istore 4, 2) := by decide +kernel
theorem dX6_ruled_19 : decode cX6_ruled 19 = .ok (.iload 4, 2) := by decide +kernel
theorem dX6_ruled_21 : decode cX6_ruled 21 = .ok (.iload_n 3, 1) := by decide +kernel
theorem dX6_ruled_22 : decode cX6_ruled 22 = .ok (.aload_n 0, 1) := by decide +kernel
theorem dX6_ruled_23 : decode cX6_ruled 23 = .ok (.getfield 28, 3) := by decide +kernel
theorem dX6_ruled_26 : decode cX6_ruled 26 = .ok (.iconst 3, 1) := by decide +kernel
theorem dX6_ruled_27 : decode cX6_ruled 27 = .ok (.aload_n 0, 1) := by decide +kernel
theorem dX6_ruled_28 : decode cX6_ruled 28 = .ok (.getfield 211, 3) := by decide +kernel
theorem dX6_ruled_31 : decode cX6_ruled 31 = .ok (.imul, 1) := by decide +kernel
theorem dX6_ruled_32 : decode cX6_ruled 32 = .ok (.iload_n 1, 1) := by decide +kernel
theorem dX6_ruled_33 : decode cX6_ruled 33 = .ok (.iadd, 1) := by decide +kernel
theorem dX6_ruled_34 : decode cX6_ruled 34 = .ok (.iaload, 1) := by decide +kernel
theorem dX6_ruled_35 : decode cX6_ruled 35 = .ok (.iadd, 1) := by decide +kernel
theorem dX6_ruled_36 : decode cX6_ruled 36 = .ok (.if_icmp .ge 155, 3) := by decide +kernel
theorem dX6_ruled_39 : decode cX6_ruled 39 = .ok (.aload_n 0, 1) := by decide +kernel
theorem dX6_ruled_40 : decode cX6_ruled 40 = .ok (.getfield 31, 3) := by decide +kernel
theorem dX6_ruled_43 : decode cX6_ruled 43 = .ok (.iload 4, 2) := by decide +kernel
theorem dX6_ruled_45 : decode cX6_ruled 45 = .ok (.iaload, 1) := by decide +kernel
theorem dX6_ruled_46 : decode cX6_ruled 46 = .ok (.istore 5, 2) := by decide +kernel
theorem dX6_ruled_48 : decode cX6_ruled 48 = .ok (.iload 5, 2) := by decide +kernel
theorem dX6_ruled_50 : decode cX6_ruled 50 = .ok (.bipush 15, 2) := by decide +kernel
theorem dX6_ruled_52 : decode cX6_ruled 52 = .ok (.if_icmp .ge 9, 3) := by decide +kernel
theorem dX6_ruled_55 : decode cX6_ruled 55 = .ok (.iload 5, 2) := by decide +kernel
theorem dX6_ruled_57 : decode cX6_ruled 57 = .ok (.iconst 5, 1) := by decide +kernel
theorem dX6_ruled_58 : decode cX6_ruled 58 = .ok (.if_icmp .gt 37, 3) := by decide +kernel
theorem dX6_ruled_61 : decode cX6_ruled 61 = .ok (.aload_n 0, 1) := by decide +kernel
theorem dX6_ruled_62 : decode cX6_ruled 62 = .ok (.getfield 37, 3) := by decide +kernel
theorem dX6_ruled_65 : decode cX6_ruled 65 = .ok (.iload_n 2, 1) := by decide +kernel
theorem dX6_ruled_66 : decode cX6_ruled 66 = .ok (.iinc 2 1, 3) := by decide +kernel
theorem dX6_ruled_69 : decode cX6_ruled 69 = .ok (.iload 5, 2) := by decide +kernel
theorem dX6_ruled_71 : decode cX6_ruled 71 = .ok (.bipush 15, 2) := by decide +kernel
theorem dX6_ruled_73 : decode cX6_ruled 73 = .ok (.if_icmp .lt 11, 3) := by decide +kernel
theorem dX6_ruled_76 : decode cX6_ruled 76 = .ok (.iload 5, 2) := by decide +kernel
theorem dX6_ruled_78 : decode cX6_ruled 78 = .ok (.bipush 15, 2) := by decide +kernel
theorem dX6_ruled_80 : decode cX6_ruled 80 = .ok (.isub, 1) := by decide +kernel
theorem dX6_ruled_81 : decode cX6_ruled 81 = .ok (.goto 10, 3) := by decide +kernel
theorem dX6_ruled_84 : decode cX6_ruled 84 = .ok (.aload_n 0, 1) := by decide +kernel
theorem dX6_ruled_85 : decode cX6_ruled 85 = .ok (.getfield 40, 3) := by decide +kernel
theorem dX6_ruled_88 : decode cX6_ruled 88 = .ok (.iload 5, 2) := by decide +kernel
theorem dX6_ruled_90 : decode cX6_ruled 90 = .ok (.iaload, 1) := by decide +kernel
theorem dX6_ruled_91 : decode cX6_ruled 91 = .ok (.iastore, 1) := by decide +kernel
theorem dX6_ruled_92 : decode cX6_ruled 92 = .ok (.goto 93, 3) := by decide +kernel
theorem dX6_ruled_95 : decode cX6_ruled 95 = .ok (.iload 5, 2) := by decide +kernel
theorem dX6_ruled_97 : decode cX6_ruled 97 = .ok (.bipush 13, 2) := by decide +kernel
theorem dX6_ruled_99 : decode cX6_ruled 99 = .ok (.if_icmp .eq 10, 3) := by decide +kernel
theorem dX6_ruled_102 : decode cX6_ruled 102 = .ok (.iload 5, 2) := by decide +kernel
theorem dX6_ruled_104 : decode cX6_ruled 104 = .ok (.bipush 14, 2) := by decide +kernel
theorem dX6_ruled_106 : decode cX6_ruled 106 = .ok (.if_icmp .ne 49, 3) := by decide +kernel
theorem dX6_ruled_109 : decode cX6_ruled 109 = .ok (.aload_n 0, 1) := by decide +kernel
theorem dX6_ruled_110 : decode cX6_ruled 110 = .ok (.getfield 37, 3) := by decide +kernel
theorem dX6_ruled_113 : decode cX6_ruled 113 = .ok (.iload_n 2, 1) := by decide +kernel
theorem dX6_ruled_114 : decode cX6_ruled 114 = .ok (.iconst 1, 1) := by decide +kernel
theorem dX6_ruled_115 : decode cX6_ruled 115 = .ok (.isub, 1) := by decide +kernel
theorem dX6_ruled_116 : decode cX6_ruled 116 = .ok (.iload 5, 2) := by decide +kernel
theorem dX6_ruled_118 : decode cX6_ruled 118 = .ok (.bipush 14, 2) := by decide +kernel
theorem dX6_ruled_120 : decode cX6_ruled 120 = .ok (.if_icmp .ne 15, 3) := by decide +kernel
theorem dX6_ruled_123 : decode cX6_ruled 123 = .ok (.aload_n 0, 1) := by decide +kernel
theorem dX6_ruled_124 : decode cX6_ruled 124 = .ok (.getfield 37, 3) := by decide +kernel
theorem dX6_ruled_127 : decode cX6_ruled 127 = .ok (.iload_n 2, 1) := by decide +kernel
theorem dX6_ruled_128 : decode cX6_ruled 128 = .ok (.iconst 1, 1) := by decide +kernel
theorem dX6_ruled_129 : decode cX6_ruled 129 = .ok (.isub, 1) := by decide +kernel
theorem dX6_ruled_130 : decode cX6_ruled 130 = .ok (.iaload, 1) := by decide +kernel
theorem dX6_ruled_131 : decode cX6_ruled 131 = .ok (.ineg, 1) := by decide +kernel
theorem dX6_ruled_132 : decode cX6_ruled 132 = .ok (.goto 19, 3) := by decide +kernel
theorem dX6_ruled_135 : decode cX6_ruled 135 = .ok (.aload_n 0, 1) := by decide +kernel
theorem dX6_ruled_136 : decode cX6_ruled 136 = .ok (.getfield 37, 3) := by decide +kernel
theorem dX6_ruled_139 : decode cX6_ruled 139 = .ok (.iload_n 2, 1) := by decide +kernel
theorem dX6_ruled_140 : decode cX6_ruled 140 = .ok (.iconst 1, 1) := by decide +kernel
theorem dX6_ruled_141 : decode cX6_ruled 141 = .ok (.isub, 1) := by decide +kernel
theorem dX6_ruled_142 : decode cX6_ruled 142 = .ok (.iaload, 1) := by decide +kernel
theorem dX6_ruled_143 : decode cX6_ruled 143 = .ok (.ifCond .ne 7, 3) := by decide +kernel
theorem dX6_ruled_146 : decode cX6_ruled 146 = .ok (.iconst 1, 1) := by decide +kernel
theorem dX6_ruled_147 : decode cX6_ruled 147 = .ok (.goto 4, 3) := by decide +kernel
theorem dX6_ruled_150 : decode cX6_ruled 150 = .ok (.iconst 0, 1) := by decide +kernel
theorem dX6_ruled_151 : decode cX6_ruled 151 = .ok (.iastore, 1) := by decide +kernel
theorem dX6_ruled_152 : decode cX6_ruled 152 = .ok (.goto 33, 3) := by decide +kernel
theorem dX6_ruled_155 : decode cX6_ruled 155 = .ok (.iinc 2 (-1), 3) := by decide +kernel
theorem dX6_ruled_158 : decode cX6_ruled 158 = .ok (.aload_n 0, 1) := by decide +kernel
theorem dX6_ruled_159 : decode cX6_ruled 159 = .ok (.getfield 37, 3) := by decide +kernel
theorem dX6_ruled_162 : decode cX6_ruled 162 = .ok (.iload_n 2, 1) := by decide +kernel
theorem dX6_ruled_163 : decode cX6_ruled 163 = .ok (.iconst 1, 1) := by decide +kernel
theorem dX6_ruled_164 : decode cX6_ruled 164 = .ok (.isub, 1) := by decide +kernel
theorem dX6_ruled_165 : decode cX6_ruled 165 = .ok (.iload 5, 2) := by decide +kernel
theorem dX6_ruled_167 : decode cX6_ruled 167 = .ok (.aload_n 0, 1) := by decide +kernel
theorem dX6_ruled_168 : decode cX6_ruled 168 = .ok (.getfield 37, 3) := by decide +kernel
theorem dX6_ruled_171 : decode cX6_ruled 171 = .ok (.iload_n 2, 1) := by decide +kernel
theorem dX6_ruled_172 : decode cX6_ruled 172 = .ok (.iconst 1, 1) := by decide +kernel
theorem dX6_ruled_173 : decode cX6_ruled 173 = .ok (.isub, 1) := by decide +kernel
theorem dX6_ruled_174 : decode cX6_ruled 174 = .ok (.iaload, 1) := by decide +kernel
theorem dX6_ruled_175 : decode cX6_ruled 175 = .ok (.aload_n 0, 1) := by decide +kernel
theorem dX6_ruled_176 : decode cX6_ruled 176 = .ok (.getfield 37, 3) := by decide +kernel
theorem dX6_ruled_179 : decode cX6_ruled 179 = .ok (.iload_n 2, 1) := by decide +kernel
theorem dX6_ruled_180 : decode cX6_ruled 180 = .ok (.iaload, 1) := by decide +kernel
theorem dX6_ruled_181 : decode cX6_ruled 181 = .ok (.invokestatic 214, 3) := by decide +kernel
theorem dX6_ruled_184 : decode cX6_ruled 184 = .ok (.iastore, 1) := by decide +kernel
theorem dX6_ruled_185 : decode cX6_ruled 185 = .ok (.iinc 4 1, 3) := by decide +kernel
theorem dX6_ruled_188 : decode cX6_ruled 188 = .ok (.goto (-169), 3) := by decide +kernel
theorem dX6_ruled_191 : decode cX6_ruled 191 = .ok (.aload_n 0, 1) := by decide +kernel
theorem dX6_ruled_192 : decode cX6_ruled 192 = .ok (.getfield 37, 3) := by decide +kernel
theorem dX6_ruled_195 : decode cX6_ruled 195 = .ok (.iconst 0, 1) := by decide +kernel
theorem dX6_ruled_196 : decode cX6_ruled 196 = .ok (.iaload, 1) := by decide +kernel
theorem dX6_ruled_197 : decode cX6_ruled 197 = .ok (.ireturn, 1) := by decide +kernel
theorem dX6_both_0 : decode cX6_both 0 = .ok (.iload_n 0, 1) := by decide +kernel
theorem dX6_both_1 : decode cX6_both 1 = .ok (.tableswitch 87 6 11 #[39, 43, 47, 51, 62, 73], 39) := by decide +kernel
theorem dX6_both_40 : decode cX6_both 40 = .ok (.iload_n 1, 1) := by decide +kernel
theorem dX6_both_41 : decode cX6_both 41 = .ok (.iload_n 2, 1) := by decide +kernel
theorem dX6_both_42 : decode cX6_both 42 = .ok (.iadd, 1) := by decide +kernel
theorem dX6_both_43 : decode cX6_both 43 = .ok (.ireturn, 1) := by decide +kernel
theorem dX6_both_44 : decode cX6_both 44 = .ok (.iload_n 1, 1) := by decide +kernel
theorem dX6_both_45 : decode cX6_both 45 = .ok (.iload_n 2, 1) := by decide +kernel
theorem dX6_both_46 : decode cX6_both 46 = .ok (.isub, 1) := by decide +kernel
theorem dX6_both_47 : decode cX6_both 47 = .ok (.ireturn, 1) := by decide +kernel
theorem dX6_both_48 : decode cX6_both 48 = .ok (.iload_n 1, 1) := by decide +kernel
theorem dX6_both_49 : decode cX6_both 49 = .ok (.iload_n 2, 1) := by decide +kernel
theorem dX6_both_50 : decode cX6_both 50 = .ok (.imul, 1) := by decide +kernel
theorem dX6_both_51 : decode cX6_both 51 = .ok (.ireturn, 1) := by decide +kernel
theorem dX6_both_52 : decode cX6_both 52 = .ok (.iload_n 1, 1) := by decide +kernel
theorem dX6_both_53 : decode cX6_both 53 = .ok (.iload_n 2, 1) := by decide +kernel
theorem dX6_both_54 : decode cX6_both 54 = .ok (.if_icmp .ge 7, 3) := by decide +kernel
theorem dX6_both_57 : decode cX6_both 57 = .ok (.iconst 1, 1) := by decide +kernel
theorem dX6_both_58 : decode cX6_both 58 = .ok (.goto 4, 3) := by decide +kernel
theorem dX6_both_61 : decode cX6_both 61 = .ok (.iconst 0, 1) := by decide +kernel
theorem dX6_both_62 : decode cX6_both 62 = .ok (.ireturn, 1) := by decide +kernel
theorem dX6_both_63 : decode cX6_both 63 = .ok (.iload_n 1, 1) := by decide +kernel
theorem dX6_both_64 : decode cX6_both 64 = .ok (.iload_n 2, 1) := by decide +kernel
theorem dX6_both_65 : decode cX6_both 65 = .ok (.if_icmp .ne 7, 3) := by decide +kernel
theorem dX6_both_68 : decode cX6_both 68 = .ok (.iconst 1, 1) := by decide +kernel
theorem dX6_both_69 : decode cX6_both 69 = .ok (.goto 4, 3) := by decide +kernel
theorem dX6_both_72 : decode cX6_both 72 = .ok (.iconst 0, 1) := by decide +kernel
theorem dX6_both_73 : decode cX6_both 73 = .ok (.ireturn, 1) := by decide +kernel
theorem dX6_both_74 : decode cX6_both 74 = .ok (.iload_n 1, 1) := by decide +kernel
theorem dX6_both_75 : decode cX6_both 75 = .ok (.ifCond .eq 11, 3) := by decide +kernel
theorem dX6_both_78 : decode cX6_both 78 = .ok (.iload_n 2, 1) := by decide +kernel
theorem dX6_both_79 : decode cX6_both 79 = .ok (.ifCond .eq 7, 3) := by decide +kernel
theorem dX6_both_82 : decode cX6_both 82 = .ok (.iconst 1, 1) := by decide +kernel
theorem dX6_both_83 : decode cX6_both 83 = .ok (.goto 4, 3) := by decide +kernel
theorem dX6_both_86 : decode cX6_both 86 = .ok (.iconst 0, 1) := by decide +kernel
theorem dX6_both_87 : decode cX6_both 87 = .ok (.ireturn, 1) := by decide +kernel
theorem dX6_both_88 : decode cX6_both 88 = .ok (.iload_n 1, 1) := by decide +kernel
theorem dX6_both_89 : decode cX6_both 89 = .ok (.ifCond .ne 7, 3) := by decide +kernel
theorem dX6_both_92 : decode cX6_both 92 = .ok (.iload_n 2, 1) := by decide +kernel
theorem dX6_both_93 : decode cX6_both 93 = .ok (.ifCond .eq 7, 3) := by decide +kernel
theorem dX6_both_96 : decode cX6_both 96 = .ok (.iconst 1, 1) := by decide +kernel
theorem dX6_both_97 : decode cX6_both 97 = .ok (.goto 4, 3) := by decide +kernel
theorem dX6_both_100 : decode cX6_both 100 = .ok (.iconst 0, 1) := by decide +kernel
theorem dX6_both_101 : decode cX6_both 101 = .ok (.ireturn, 1) := by decide +kernel
theorem dX6_mostRue_0 : decode cX6_mostRue 0 = .ok (.iconst 0, 1) := by decide +kernel
theorem dX6_mostRue_1 : decode cX6_mostRue 1 = .ok (.istore_n 1, 1) := by decide +kernel
theorem dX6_mostRue_2 : decode cX6_mostRue 2 = .ok (.iconst 0, 1) := by decide +kernel
theorem dX6_mostRue_3 : decode cX6_mostRue 3 = .ok (.istore_n 2, 1) := by decide +kernel
theorem dX6_mostRue_4 : decode cX6_mostRue 4 = .ok (.iload_n 2, 1) := by decide +kernel
theorem dX6_mostRue_5 : decode cX6_mostRue 5 = .ok (.aload_n 0, 1) := by decide +kernel
theorem dX6_mostRue_6 : decode cX6_mostRue 6 = .ok (.getfield 85, 3) := by decide +kernel
theorem dX6_mostRue_9 : decode cX6_mostRue 9 = .ok (.if_icmp .ge 26, 3) := by decide +kernel
theorem dX6_mostRue_12 : decode cX6_mostRue 12 = .ok (.aload_n 0, 1) := by decide +kernel
theorem dX6_mostRue_13 : decode cX6_mostRue 13 = .ok (.getfield 16, 3) := by decide +kernel
theorem dX6_mostRue_16 : decode cX6_mostRue 16 = .ok (.iload_n 2, 1) := by decide +kernel
theorem dX6_mostRue_17 : decode cX6_mostRue 17 = .ok (.iaload, 1) := by decide +kernel
theorem dX6_mostRue_18 : decode cX6_mostRue 18 = .ok (.iload_n 1, 1) := by decide +kernel
theorem dX6_mostRue_19 : decode cX6_mostRue 19 = .ok (.if_icmp .le 10, 3) := by decide +kernel
theorem dX6_mostRue_22 : decode cX6_mostRue 22 = .ok (.aload_n 0, 1) := by decide +kernel
theorem dX6_mostRue_23 : decode cX6_mostRue 23 = .ok (.getfield 16, 3) := by decide +kernel
theorem dX6_mostRue_26 : decode cX6_mostRue 26 = .ok (.iload_n 2, 1) := by decide +kernel
theorem dX6_mostRue_27 : decode cX6_mostRue 27 = .ok (.iaload, 1) := by decide +kernel
theorem dX6_mostRue_28 : decode cX6_mostRue 28 = .ok (.istore_n 1, 1) := by decide +kernel
theorem dX6_mostRue_29 : decode cX6_mostRue 29 = .ok (.iinc 2 1, 3) := by decide +kernel
theorem dX6_mostRue_32 : decode cX6_mostRue 32 = .ok (.goto (-28), 3) := by decide +kernel
theorem dX6_mostRue_35 : decode cX6_mostRue 35 = .ok (.iload_n 1, 1) := by decide +kernel
theorem dX6_mostRue_36 : decode cX6_mostRue 36 = .ok (.ireturn, 1) := by decide +kernel
theorem dX6_ruledFor_0 : decode cX6_ruledFor 0 = .ok (.aload_n 0, 1) := by decide +kernel
theorem dX6_ruledFor_1 : decode cX6_ruledFor 1 = .ok (.getfield 40, 3) := by decide +kernel
theorem dX6_ruledFor_4 : decode cX6_ruledFor 4 = .ok (.iconst 0, 1) := by decide +kernel
theorem dX6_ruledFor_5 : decode cX6_ruledFor 5 = .ok (.aload_n 0, 1) := by decide +kernel
theorem dX6_ruledFor_6 : decode cX6_ruledFor 6 = .ok (.getfield 16, 3) := by decide +kernel
theorem dX6_ruledFor_9 : decode cX6_ruledFor 9 = .ok (.iload_n 2, 1) := by decide +kernel
theorem dX6_ruledFor_10 : decode cX6_ruledFor 10 = .ok (.iaload, 1) := by decide +kernel
theorem dX6_ruledFor_11 : decode cX6_ruledFor 11 = .ok (.iastore, 1) := by decide +kernel
theorem dX6_ruledFor_12 : decode cX6_ruledFor 12 = .ok (.aload_n 0, 1) := by decide +kernel
theorem dX6_ruledFor_13 : decode cX6_ruledFor 13 = .ok (.getfield 40, 3) := by decide +kernel
theorem dX6_ruledFor_16 : decode cX6_ruledFor 16 = .ok (.iconst 1, 1) := by decide +kernel
theorem dX6_ruledFor_17 : decode cX6_ruledFor 17 = .ok (.aload_n 0, 1) := by decide +kernel
theorem dX6_ruledFor_18 : decode cX6_ruledFor 18 = .ok (.getfield 13, 3) := by decide +kernel
theorem dX6_ruledFor_21 : decode cX6_ruledFor 21 = .ok (.iload_n 2, 1) := by decide +kernel
theorem dX6_ruledFor_22 : decode cX6_ruledFor 22 = .ok (.iaload, 1) := by decide +kernel
theorem dX6_ruledFor_23 : decode cX6_ruledFor 23 = .ok (.iastore, 1) := by decide +kernel
theorem dX6_ruledFor_24 : decode cX6_ruledFor 24 = .ok (.aload_n 0, 1) := by decide +kernel
theorem dX6_ruledFor_25 : decode cX6_ruledFor 25 = .ok (.getfield 40, 3) := by decide +kernel
theorem dX6_ruledFor_28 : decode cX6_ruledFor 28 = .ok (.iconst 2, 1) := by decide +kernel
theorem dX6_ruledFor_29 : decode cX6_ruledFor 29 = .ok (.aload_n 0, 1) := by decide +kernel
theorem dX6_ruledFor_30 : decode cX6_ruledFor 30 = .ok (.getfield 99, 3) := by decide +kernel
theorem dX6_ruledFor_33 : decode cX6_ruledFor 33 = .ok (.iastore, 1) := by decide +kernel
theorem dX6_ruledFor_34 : decode cX6_ruledFor 34 = .ok (.aload_n 0, 1) := by decide +kernel
theorem dX6_ruledFor_35 : decode cX6_ruledFor 35 = .ok (.getfield 40, 3) := by decide +kernel
theorem dX6_ruledFor_38 : decode cX6_ruledFor 38 = .ok (.iconst 3, 1) := by decide +kernel
theorem dX6_ruledFor_39 : decode cX6_ruledFor 39 = .ok (.aload_n 0, 1) := by decide +kernel
theorem dX6_ruledFor_40 : decode cX6_ruledFor 40 = .ok (.getfield 96, 3) := by decide +kernel
theorem dX6_ruledFor_43 : decode cX6_ruledFor 43 = .ok (.iastore, 1) := by decide +kernel
theorem dX6_ruledFor_44 : decode cX6_ruledFor 44 = .ok (.aload_n 0, 1) := by decide +kernel
theorem dX6_ruledFor_45 : decode cX6_ruledFor 45 = .ok (.getfield 40, 3) := by decide +kernel
theorem dX6_ruledFor_48 : decode cX6_ruledFor 48 = .ok (.iconst 4, 1) := by decide +kernel
theorem dX6_ruledFor_49 : decode cX6_ruledFor 49 = .ok (.aload_n 0, 1) := by decide +kernel
theorem dX6_ruledFor_50 : decode cX6_ruledFor 50 = .ok (.getfield 19, 3) := by decide +kernel
theorem dX6_ruledFor_53 : decode cX6_ruledFor 53 = .ok (.iload_n 2, 1) := by decide +kernel
theorem dX6_ruledFor_54 : decode cX6_ruledFor 54 = .ok (.iaload, 1) := by decide +kernel
theorem dX6_ruledFor_55 : decode cX6_ruledFor 55 = .ok (.iastore, 1) := by decide +kernel
theorem dX6_ruledFor_56 : decode cX6_ruledFor 56 = .ok (.aload_n 0, 1) := by decide +kernel
theorem dX6_ruledFor_57 : decode cX6_ruledFor 57 = .ok (.getfield 40, 3) := by decide +kernel
theorem dX6_ruledFor_60 : decode cX6_ruledFor 60 = .ok (.iconst 5, 1) := by decide +kernel
theorem dX6_ruledFor_61 : decode cX6_ruledFor 61 = .ok (.aload_n 0, 1) := by decide +kernel
theorem dX6_ruledFor_62 : decode cX6_ruledFor 62 = .ok (.invokevirtual 218, 3) := by decide +kernel
theorem dX6_ruledFor_65 : decode cX6_ruledFor 65 = .ok (.iastore, 1) := by decide +kernel
theorem dX6_ruledFor_66 : decode cX6_ruledFor 66 = .ok (.aload_n 0, 1) := by decide +kernel
theorem dX6_ruledFor_67 : decode cX6_ruledFor 67 = .ok (.iload_n 1, 1) := by decide +kernel
theorem dX6_ruledFor_68 : decode cX6_ruledFor 68 = .ok (.invokevirtual 221, 3) := by decide +kernel
theorem dX6_ruledFor_71 : decode cX6_ruledFor 71 = .ok (.ireturn, 1) := by decide +kernel
theorem dX6_runsOf_0 : decode cX6_runsOf 0 = .ok (.aload_n 0, 1) := by decide +kernel
theorem dX6_runsOf_1 : decode cX6_runsOf 1 = .ok (.iconst 0, 1) := by decide +kernel
theorem dX6_runsOf_2 : decode cX6_runsOf 2 = .ok (.iload_n 1, 1) := by decide +kernel
theorem dX6_runsOf_3 : decode cX6_runsOf 3 = .ok (.invokevirtual 224, 3) := by decide +kernel
theorem dX6_runsOf_6 : decode cX6_runsOf 6 = .ok (.iconst 0, 1) := by decide +kernel
theorem dX6_runsOf_7 : decode cX6_runsOf 7 = .ok (.bipush 99, 2) := by decide +kernel
theorem dX6_runsOf_9 : decode cX6_runsOf 9 = .ok (.invokestatic 227, 3) := by decide +kernel
theorem dX6_runsOf_12 : decode cX6_runsOf 12 = .ok (.istore_n 2, 1) := by decide +kernel
theorem dX6_runsOf_13 : decode cX6_runsOf 13 = .ok (.iload_n 2, 1) := by decide +kernel
theorem dX6_runsOf_14 : decode cX6_runsOf 14 = .ok (.istore_n 3, 1) := by decide +kernel
theorem dX6_runsOf_15 : decode cX6_runsOf 15 = .ok (.aload_n 0, 1) := by decide +kernel
theorem dX6_runsOf_16 : decode cX6_runsOf 16 = .ok (.getfield 7, 3) := by decide +kernel
theorem dX6_runsOf_19 : decode cX6_runsOf 19 = .ok (.iload_n 1, 1) := by decide +kernel
theorem dX6_runsOf_20 : decode cX6_runsOf 20 = .ok (.iaload, 1) := by decide +kernel
theorem dX6_runsOf_21 : decode cX6_runsOf 21 = .ok (.tableswitch 104 1 5 #[35, 42, 49, 66, 94], 35) := by decide +kernel
theorem dX6_runsOf_56 : decode cX6_runsOf 56 = .ok (.iload_n 2, 1) := by decide +kernel
theorem dX6_runsOf_57 : decode cX6_runsOf 57 = .ok (.iconst 1, 1) := by decide +kernel
theorem dX6_runsOf_58 : decode cX6_runsOf 58 = .ok (.iadd, 1) := by decide +kernel
theorem dX6_runsOf_59 : decode cX6_runsOf 59 = .ok (.istore_n 3, 1) := by decide +kernel
theorem dX6_runsOf_60 : decode cX6_runsOf 60 = .ok (.goto 65, 3) := by decide +kernel
theorem dX6_runsOf_63 : decode cX6_runsOf 63 = .ok (.iload_n 2, 1) := by decide +kernel
theorem dX6_runsOf_64 : decode cX6_runsOf 64 = .ok (.iconst 2, 1) := by decide +kernel
theorem dX6_runsOf_65 : decode cX6_runsOf 65 = .ok (.idiv, 1) := by decide +kernel
theorem dX6_runsOf_66 : decode cX6_runsOf 66 = .ok (.istore_n 3, 1) := by decide +kernel
theorem dX6_runsOf_67 : decode cX6_runsOf 67 = .ok (.goto 58, 3) := by decide +kernel
theorem dX6_runsOf_70 : decode cX6_runsOf 70 = .ok (.iload_n 2, 1) := by decide +kernel
theorem dX6_runsOf_71 : decode cX6_runsOf 71 = .ok (.iconst 1, 1) := by decide +kernel
theorem dX6_runsOf_72 : decode cX6_runsOf 72 = .ok (.iadd, 1) := by decide +kernel
theorem dX6_runsOf_73 : decode cX6_runsOf 73 = .ok (.aload_n 0, 1) := by decide +kernel
theorem dX6_runsOf_74 : decode cX6_runsOf 74 = .ok (.getfield 19, 3) := by decide +kernel
theorem dX6_runsOf_77 : decode cX6_runsOf 77 = .ok (.iload_n 1, 1) := by decide +kernel
theorem dX6_runsOf_78 : decode cX6_runsOf 78 = .ok (.iaload, 1) := by decide +kernel
theorem dX6_runsOf_79 : decode cX6_runsOf 79 = .ok (.bipush 10, 2) := by decide +kernel
theorem dX6_runsOf_81 : decode cX6_runsOf 81 = .ok (.idiv, 1) := by decide +kernel
theorem dX6_runsOf_82 : decode cX6_runsOf 82 = .ok (.isub, 1) := by decide +kernel
theorem dX6_runsOf_83 : decode cX6_runsOf 83 = .ok (.istore_n 3, 1) := by decide +kernel
theorem dX6_runsOf_84 : decode cX6_runsOf 84 = .ok (.goto 41, 3) := by decide +kernel
theorem dX6_runsOf_87 : decode cX6_runsOf 87 = .ok (.aload_n 0, 1) := by decide +kernel
theorem dX6_runsOf_88 : decode cX6_runsOf 88 = .ok (.getfield 96, 3) := by decide +kernel
theorem dX6_runsOf_91 : decode cX6_runsOf 91 = .ok (.bipush 7, 2) := by decide +kernel
theorem dX6_runsOf_93 : decode cX6_runsOf 93 = .ok (.irem, 1) := by decide +kernel
theorem dX6_runsOf_94 : decode cX6_runsOf 94 = .ok (.aload_n 0, 1) := by decide +kernel
theorem dX6_runsOf_95 : decode cX6_runsOf 95 = .ok (.getfield 13, 3) := by decide +kernel
theorem dX6_runsOf_98 : decode cX6_runsOf 98 = .ok (.iload_n 1, 1) := by decide +kernel
theorem dX6_runsOf_99 : decode cX6_runsOf 99 = .ok (.iaload, 1) := by decide +kernel
theorem dX6_runsOf_100 : decode cX6_runsOf 100 = .ok (.if_icmp .ne 8, 3) := by decide +kernel
theorem dX6_runsOf_103 : decode cX6_runsOf 103 = .ok (.bipush 9, 2) := by decide +kernel
theorem dX6_runsOf_105 : decode cX6_runsOf 105 = .ok (.goto 6, 3) := by decide +kernel
theorem dX6_runsOf_108 : decode cX6_runsOf 108 = .ok (.iload_n 2, 1) := by decide +kernel
theorem dX6_runsOf_109 : decode cX6_runsOf 109 = .ok (.iconst 2, 1) := by decide +kernel
theorem dX6_runsOf_110 : decode cX6_runsOf 110 = .ok (.idiv, 1) := by decide +kernel
theorem dX6_runsOf_111 : decode cX6_runsOf 111 = .ok (.istore_n 3, 1) := by decide +kernel
theorem dX6_runsOf_112 : decode cX6_runsOf 112 = .ok (.goto 13, 3) := by decide +kernel
theorem dX6_runsOf_115 : decode cX6_runsOf 115 = .ok (.aload_n 0, 1) := by decide +kernel
theorem dX6_runsOf_116 : decode cX6_runsOf 116 = .ok (.getfield 13, 3) := by decide +kernel
theorem dX6_runsOf_119 : decode cX6_runsOf 119 = .ok (.iload_n 1, 1) := by decide +kernel
theorem dX6_runsOf_120 : decode cX6_runsOf 120 = .ok (.iaload, 1) := by decide +kernel
theorem dX6_runsOf_121 : decode cX6_runsOf 121 = .ok (.istore_n 3, 1) := by decide +kernel
theorem dX6_runsOf_122 : decode cX6_runsOf 122 = .ok (.goto 3, 3) := by decide +kernel
theorem dX6_runsOf_125 : decode cX6_runsOf 125 = .ok (.iload_n 3, 1) := by decide +kernel
theorem dX6_runsOf_126 : decode cX6_runsOf 126 = .ok (.iconst 0, 1) := by decide +kernel
theorem dX6_runsOf_127 : decode cX6_runsOf 127 = .ok (.bipush 9, 2) := by decide +kernel
theorem dX6_runsOf_129 : decode cX6_runsOf 129 = .ok (.invokestatic 227, 3) := by decide +kernel
theorem dX6_runsOf_132 : decode cX6_runsOf 132 = .ok (.ireturn, 1) := by decide +kernel
theorem dX6_isClogged_0 : decode cX6_isClogged 0 = .ok (.aload_n 0, 1) := by decide +kernel
theorem dX6_isClogged_1 : decode cX6_isClogged 1 = .ok (.iconst 1, 1) := by decide +kernel
theorem dX6_isClogged_2 : decode cX6_isClogged 2 = .ok (.iload_n 1, 1) := by decide +kernel
theorem dX6_isClogged_3 : decode cX6_isClogged 3 = .ok (.invokevirtual 224, 3) := by decide +kernel
theorem dX6_isClogged_6 : decode cX6_isClogged 6 = .ok (.ifCond .eq 7, 3) := by decide +kernel
theorem dX6_isClogged_9 : decode cX6_isClogged 9 = .ok (.iconst 1, 1) := by decide +kernel
theorem dX6_isClogged_10 : decode cX6_isClogged 10 = .ok (.goto 4, 3) := by decide +kernel
theorem dX6_isClogged_13 : decode cX6_isClogged 13 = .ok (.iconst 0, 1) := by decide +kernel
theorem dX6_isClogged_14 : decode cX6_isClogged 14 = .ok (.istore_n 2, 1) := by decide +kernel
theorem dX6_isClogged_15 : decode cX6_isClogged 15 = .ok (.aload_n 0, 1) := by decide +kernel
theorem dX6_isClogged_16 : decode cX6_isClogged 16 = .ok (.getfield 7, 3) := by decide +kernel
theorem dX6_isClogged_19 : decode cX6_isClogged 19 = .ok (.iload_n 1, 1) := by decide +kernel
theorem dX6_isClogged_20 : decode cX6_isClogged 20 = .ok (.iaload, 1) := by decide +kernel
theorem dX6_isClogged_21 : decode cX6_isClogged 21 = .ok (.tableswitch 80 1 4 #[31, 49, 51, 49], 31) := by decide +kernel
theorem dX6_isClogged_52 : decode cX6_isClogged 52 = .ok (.iload_n 2, 1) := by decide +kernel
theorem dX6_isClogged_53 : decode cX6_isClogged 53 = .ok (.ifCond .eq 15, 3) := by decide +kernel
theorem dX6_isClogged_56 : decode cX6_isClogged 56 = .ok (.aload_n 0, 1) := by decide +kernel
theorem dX6_isClogged_57 : decode cX6_isClogged 57 = .ok (.getfield 99, 3) := by decide +kernel
theorem dX6_isClogged_60 : decode cX6_isClogged 60 = .ok (.iconst 3, 1) := by decide +kernel
theorem dX6_isClogged_61 : decode cX6_isClogged 61 = .ok (.if_icmp .le 7, 3) := by decide +kernel
theorem dX6_isClogged_64 : decode cX6_isClogged 64 = .ok (.iconst 1, 1) := by decide +kernel
theorem dX6_isClogged_65 : decode cX6_isClogged 65 = .ok (.goto 4, 3) := by decide +kernel
theorem dX6_isClogged_68 : decode cX6_isClogged 68 = .ok (.iconst 0, 1) := by decide +kernel
theorem dX6_isClogged_69 : decode cX6_isClogged 69 = .ok (.ireturn, 1) := by decide +kernel
theorem dX6_isClogged_70 : decode cX6_isClogged 70 = .ok (.iconst 0, 1) := by decide +kernel
theorem dX6_isClogged_71 : decode cX6_isClogged 71 = .ok (.ireturn, 1) := by decide +kernel
theorem dX6_isClogged_72 : decode cX6_isClogged 72 = .ok (.iload_n 2, 1) := by decide +kernel
theorem dX6_isClogged_73 : decode cX6_isClogged 73 = .ok (.ifCond .eq 11, 3) := by decide +kernel
theorem dX6_isClogged_76 : decode cX6_isClogged 76 = .ok (.aload_n 0, 1) := by decide +kernel
theorem dX6_isClogged_77 : decode cX6_isClogged 77 = .ok (.getfield 99, 3) := by decide +kernel
theorem dX6_isClogged_80 : decode cX6_isClogged 80 = .ok (.iconst 3, 1) := by decide +kernel
theorem dX6_isClogged_81 : decode cX6_isClogged 81 = .ok (.if_icmp .gt 14, 3) := by decide +kernel
theorem dX6_isClogged_84 : decode cX6_isClogged 84 = .ok (.aload_n 0, 1) := by decide +kernel
theorem dX6_isClogged_85 : decode cX6_isClogged 85 = .ok (.getfield 19, 3) := by decide +kernel
theorem dX6_isClogged_88 : decode cX6_isClogged 88 = .ok (.iload_n 1, 1) := by decide +kernel
theorem dX6_isClogged_89 : decode cX6_isClogged 89 = .ok (.iaload, 1) := by decide +kernel
theorem dX6_isClogged_90 : decode cX6_isClogged 90 = .ok (.bipush 50, 2) := by decide +kernel
theorem dX6_isClogged_92 : decode cX6_isClogged 92 = .ok (.if_icmp .le 7, 3) := by decide +kernel
theorem dX6_isClogged_95 : decode cX6_isClogged 95 = .ok (.iconst 1, 1) := by decide +kernel
theorem dX6_isClogged_96 : decode cX6_isClogged 96 = .ok (.goto 4, 3) := by decide +kernel
theorem dX6_isClogged_99 : decode cX6_isClogged 99 = .ok (.iconst 0, 1) := by decide +kernel
theorem dX6_isClogged_100 : decode cX6_isClogged 100 = .ok (.ireturn, 1) := by decide +kernel
theorem dX6_isClogged_101 : decode cX6_isClogged 101 = .ok (.iload_n 2, 1) := by decide +kernel
theorem dX6_isClogged_102 : decode cX6_isClogged 102 = .ok (.ireturn, 1) := by decide +kernel
theorem dX6_ruesOf_0 : decode cX6_ruesOf 0 = .ok (.aload_n 0, 1) := by decide +kernel
theorem dX6_ruesOf_1 : decode cX6_ruesOf 1 = .ok (.iconst 2, 1) := by decide +kernel
theorem dX6_ruesOf_2 : decode cX6_ruesOf 2 = .ok (.iload_n 1, 1) := by decide +kernel
theorem dX6_ruesOf_3 : decode cX6_ruesOf 3 = .ok (.invokevirtual 224, 3) := by decide +kernel
theorem dX6_ruesOf_6 : decode cX6_ruesOf 6 = .ok (.iconst 0, 1) := by decide +kernel
theorem dX6_ruesOf_7 : decode cX6_ruesOf 7 = .ok (.bipush 99, 2) := by decide +kernel
theorem dX6_ruesOf_9 : decode cX6_ruesOf 9 = .ok (.invokestatic 227, 3) := by decide +kernel
theorem dX6_ruesOf_12 : decode cX6_ruesOf 12 = .ok (.istore_n 2, 1) := by decide +kernel
theorem dX6_ruesOf_13 : decode cX6_ruesOf 13 = .ok (.aload_n 0, 1) := by decide +kernel
theorem dX6_ruesOf_14 : decode cX6_ruesOf 14 = .ok (.getfield 7, 3) := by decide +kernel
theorem dX6_ruesOf_17 : decode cX6_ruesOf 17 = .ok (.iload_n 1, 1) := by decide +kernel
theorem dX6_ruesOf_18 : decode cX6_ruesOf 18 = .ok (.iaload, 1) := by decide +kernel
theorem dX6_ruesOf_19 : decode cX6_ruesOf 19 = .ok (.tableswitch 71 1 5 #[33, 43, 45, 62, 64], 33) := by decide +kernel
theorem dX6_ruesOf_52 : decode cX6_ruesOf 52 = .ok (.iconst 2, 1) := by decide +kernel
theorem dX6_ruesOf_53 : decode cX6_ruesOf 53 = .ok (.iload_n 2, 1) := by decide +kernel
theorem dX6_ruesOf_54 : decode cX6_ruesOf 54 = .ok (.imul, 1) := by decide +kernel
theorem dX6_ruesOf_55 : decode cX6_ruesOf 55 = .ok (.iconst 0, 1) := by decide +kernel
theorem dX6_ruesOf_56 : decode cX6_ruesOf 56 = .ok (.bipush 99, 2) := by decide +kernel
theorem dX6_ruesOf_58 : decode cX6_ruesOf 58 = .ok (.invokestatic 227, 3) := by decide +kernel
theorem dX6_ruesOf_61 : decode cX6_ruesOf 61 = .ok (.ireturn, 1) := by decide +kernel
theorem dX6_ruesOf_62 : decode cX6_ruesOf 62 = .ok (.iconst 0, 1) := by decide +kernel
theorem dX6_ruesOf_63 : decode cX6_ruesOf 63 = .ok (.ireturn, 1) := by decide +kernel
theorem dX6_ruesOf_64 : decode cX6_ruesOf 64 = .ok (.iconst 2, 1) := by decide +kernel
theorem dX6_ruesOf_65 : decode cX6_ruesOf 65 = .ok (.iload_n 2, 1) := by decide +kernel
theorem dX6_ruesOf_66 : decode cX6_ruesOf 66 = .ok (.imul, 1) := by decide +kernel
theorem dX6_ruesOf_67 : decode cX6_ruesOf 67 = .ok (.aload_n 0, 1) := by decide +kernel
theorem dX6_ruesOf_68 : decode cX6_ruesOf 68 = .ok (.getfield 13, 3) := by decide +kernel
theorem dX6_ruesOf_71 : decode cX6_ruesOf 71 = .ok (.iload_n 1, 1) := by decide +kernel
theorem dX6_ruesOf_72 : decode cX6_ruesOf 72 = .ok (.iaload, 1) := by decide +kernel
theorem dX6_ruesOf_73 : decode cX6_ruesOf 73 = .ok (.iadd, 1) := by decide +kernel
theorem dX6_ruesOf_74 : decode cX6_ruesOf 74 = .ok (.iconst 0, 1) := by decide +kernel
theorem dX6_ruesOf_75 : decode cX6_ruesOf 75 = .ok (.bipush 99, 2) := by decide +kernel
theorem dX6_ruesOf_77 : decode cX6_ruesOf 77 = .ok (.invokestatic 227, 3) := by decide +kernel
theorem dX6_ruesOf_80 : decode cX6_ruesOf 80 = .ok (.ireturn, 1) := by decide +kernel
theorem dX6_ruesOf_81 : decode cX6_ruesOf 81 = .ok (.iconst 1, 1) := by decide +kernel
theorem dX6_ruesOf_82 : decode cX6_ruesOf 82 = .ok (.ireturn, 1) := by decide +kernel
theorem dX6_ruesOf_83 : decode cX6_ruesOf 83 = .ok (.iload_n 2, 1) := by decide +kernel
theorem dX6_ruesOf_84 : decode cX6_ruesOf 84 = .ok (.iconst 0, 1) := by decide +kernel
theorem dX6_ruesOf_85 : decode cX6_ruesOf 85 = .ok (.iconst 5, 1) := by decide +kernel
theorem dX6_ruesOf_86 : decode cX6_ruesOf 86 = .ok (.invokestatic 227, 3) := by decide +kernel
theorem dX6_ruesOf_89 : decode cX6_ruesOf 89 = .ok (.ireturn, 1) := by decide +kernel
theorem dX6_ruesOf_90 : decode cX6_ruesOf 90 = .ok (.iload_n 2, 1) := by decide +kernel
theorem dX6_ruesOf_91 : decode cX6_ruesOf 91 = .ok (.ireturn, 1) := by decide +kernel
theorem dX6_minutes_0 : decode cX6_minutes 0 = .ok (.aload_n 0, 1) := by decide +kernel
theorem dX6_minutes_1 : decode cX6_minutes 1 = .ok (.iload_n 1, 1) := by decide +kernel
theorem dX6_minutes_2 : decode cX6_minutes 2 = .ok (.invokevirtual 114, 3) := by decide +kernel
theorem dX6_minutes_5 : decode cX6_minutes 5 = .ok (.ifCond .eq 7, 3) := by decide +kernel
theorem dX6_minutes_8 : decode cX6_minutes 8 = .ok (.iconst 0, 1) := by decide +kernel
theorem dX6_minutes_9 : decode cX6_minutes 9 = .ok (.goto 8, 3) := by decide +kernel
theorem dX6_minutes_12 : decode cX6_minutes 12 = .ok (.aload_n 0, 1) := by decide +kernel
theorem dX6_minutes_13 : decode cX6_minutes 13 = .ok (.iload_n 1, 1) := by decide +kernel
theorem dX6_minutes_14 : decode cX6_minutes 14 = .ok (.invokevirtual 110, 3) := by decide +kernel
theorem dX6_minutes_17 : decode cX6_minutes 17 = .ok (.ireturn, 1) := by decide +kernel
theorem dX6_goes_0 : decode cX6_goes 0 = .ok (.iconst 0, 1) := by decide +kernel
theorem dX6_goes_1 : decode cX6_goes 1 = .ok (.istore_n 1, 1) := by decide +kernel
theorem dX6_goes_2 : decode cX6_goes 2 = .ok (.iload_n 1, 1) := by decide +kernel
theorem dX6_goes_3 : decode cX6_goes 3 = .ok (.aload_n 0, 1) := by decide +kernel
theorem dX6_goes_4 : decode cX6_goes 4 = .ok (.getfield 85, 3) := by decide +kernel
theorem dX6_goes_7 : decode cX6_goes 7 = .ok (.if_icmp .ge 20, 3) := by decide +kernel
theorem dX6_goes_10 : decode cX6_goes 10 = .ok (.aload_n 0, 1) := by decide +kernel
theorem dX6_goes_11 : decode cX6_goes 11 = .ok (.getfield 49, 3) := by decide +kernel
theorem dX6_goes_14 : decode cX6_goes 14 = .ok (.iload_n 1, 1) := by decide +kernel
theorem dX6_goes_15 : decode cX6_goes 15 = .ok (.aload_n 0, 1) := by decide +kernel
theorem dX6_goes_16 : decode cX6_goes 16 = .ok (.iload_n 1, 1) := by decide +kernel
theorem dX6_goes_17 : decode cX6_goes 17 = .ok (.invokevirtual 117, 3) := by decide +kernel
theorem dX6_goes_20 : decode cX6_goes 20 = .ok (.iastore, 1) := by decide +kernel
theorem dX6_goes_21 : decode cX6_goes 21 = .ok (.iinc 1 1, 3) := by decide +kernel
theorem dX6_goes_24 : decode cX6_goes 24 = .ok (.goto (-22), 3) := by decide +kernel
theorem dX6_goes_27 : decode cX6_goes 27 = .ok (.iconst 0, 1) := by decide +kernel
theorem dX6_goes_28 : decode cX6_goes 28 = .ok (.istore_n 1, 1) := by decide +kernel
theorem dX6_goes_29 : decode cX6_goes 29 = .ok (.iload_n 1, 1) := by decide +kernel
theorem dX6_goes_30 : decode cX6_goes 30 = .ok (.aload_n 0, 1) := by decide +kernel
theorem dX6_goes_31 : decode cX6_goes 31 = .ok (.getfield 85, 3) := by decide +kernel
theorem dX6_goes_34 : decode cX6_goes 34 = .ok (.if_icmp .ge 35, 3) := by decide +kernel
theorem dX6_goes_37 : decode cX6_goes 37 = .ok (.aload_n 0, 1) := by decide +kernel
theorem dX6_goes_38 : decode cX6_goes 38 = .ok (.getfield 16, 3) := by decide +kernel
theorem dX6_goes_41 : decode cX6_goes 41 = .ok (.iload_n 1, 1) := by decide +kernel
theorem dX6_goes_42 : decode cX6_goes 42 = .ok (.aload_n 0, 1) := by decide +kernel
theorem dX6_goes_43 : decode cX6_goes 43 = .ok (.getfield 16, 3) := by decide +kernel
theorem dX6_goes_46 : decode cX6_goes 46 = .ok (.iload_n 1, 1) := by decide +kernel
theorem dX6_goes_47 : decode cX6_goes 47 = .ok (.iaload, 1) := by decide +kernel
theorem dX6_goes_48 : decode cX6_goes 48 = .ok (.aload_n 0, 1) := by decide +kernel
theorem dX6_goes_49 : decode cX6_goes 49 = .ok (.getfield 49, 3) := by decide +kernel
theorem dX6_goes_52 : decode cX6_goes 52 = .ok (.iload_n 1, 1) := by decide +kernel
theorem dX6_goes_53 : decode cX6_goes 53 = .ok (.iaload, 1) := by decide +kernel
theorem dX6_goes_54 : decode cX6_goes 54 = .ok (.iadd, 1) := by decide +kernel
theorem dX6_goes_55 : decode cX6_goes 55 = .ok (.iconst 0, 1) := by decide +kernel
theorem dX6_goes_56 : decode cX6_goes 56 = .ok (.sipush 999, 3) := by decide +kernel
theorem dX6_goes_59 : decode cX6_goes 59 = .ok (.invokestatic 227, 3) := by decide +kernel
theorem dX6_goes_62 : decode cX6_goes 62 = .ok (.iastore, 1) := by decide +kernel
theorem dX6_goes_63 : decode cX6_goes 63 = .ok (.iinc 1 1, 3) := by decide +kernel
theorem dX6_goes_66 : decode cX6_goes 66 = .ok (.goto (-37), 3) := by decide +kernel
theorem dX6_goes_69 : decode cX6_goes 69 = .ok (.aload_n 0, 1) := by decide +kernel
theorem dX6_goes_70 : decode cX6_goes 70 = .ok (.dup, 1) := by decide +kernel
theorem dX6_goes_71 : decode cX6_goes 71 = .ok (.getfield 96, 3) := by decide +kernel
theorem dX6_goes_74 : decode cX6_goes 74 = .ok (.iconst 1, 1) := by decide +kernel
theorem dX6_goes_75 : decode cX6_goes 75 = .ok (.iadd, 1) := by decide +kernel
theorem dX6_goes_76 : decode cX6_goes 76 = .ok (.putfield 96, 3) := by decide +kernel
theorem dX6_goes_79 : decode cX6_goes 79 = .ok (.return_, 1) := by decide +kernel
theorem dX6_allRue_0 : decode cX6_allRue 0 = .ok (.iconst 0, 1) := by decide +kernel
theorem dX6_allRue_1 : decode cX6_allRue 1 = .ok (.istore_n 1, 1) := by decide +kernel
theorem dX6_allRue_2 : decode cX6_allRue 2 = .ok (.iconst 0, 1) := by decide +kernel
theorem dX6_allRue_3 : decode cX6_allRue 3 = .ok (.istore_n 2, 1) := by decide +kernel
theorem dX6_allRue_4 : decode cX6_allRue 4 = .ok (.iload_n 2, 1) := by decide +kernel
theorem dX6_allRue_5 : decode cX6_allRue 5 = .ok (.aload_n 0, 1) := by decide +kernel
theorem dX6_allRue_6 : decode cX6_allRue 6 = .ok (.getfield 85, 3) := by decide +kernel
theorem dX6_allRue_9 : decode cX6_allRue 9 = .ok (.if_icmp .ge 18, 3) := by decide +kernel
theorem dX6_allRue_12 : decode cX6_allRue 12 = .ok (.iload_n 1, 1) := by decide +kernel
theorem dX6_allRue_13 : decode cX6_allRue 13 = .ok (.aload_n 0, 1) := by decide +kernel
theorem dX6_allRue_14 : decode cX6_allRue 14 = .ok (.getfield 16, 3) := by decide +kernel
theorem dX6_allRue_17 : decode cX6_allRue 17 = .ok (.iload_n 2, 1) := by decide +kernel
theorem dX6_allRue_18 : decode cX6_allRue 18 = .ok (.iaload, 1) := by decide +kernel
theorem dX6_allRue_19 : decode cX6_allRue 19 = .ok (.iadd, 1) := by decide +kernel
theorem dX6_allRue_20 : decode cX6_allRue 20 = .ok (.istore_n 1, 1) := by decide +kernel
theorem dX6_allRue_21 : decode cX6_allRue 21 = .ok (.iinc 2 1, 3) := by decide +kernel
theorem dX6_allRue_24 : decode cX6_allRue 24 = .ok (.goto (-20), 3) := by decide +kernel
theorem dX6_allRue_27 : decode cX6_allRue 27 = .ok (.iload_n 1, 1) := by decide +kernel
theorem dX6_allRue_28 : decode cX6_allRue 28 = .ok (.ireturn, 1) := by decide +kernel
theorem dX6_day_0 : decode cX6_day 0 = .ok (.aload_n 0, 1) := by decide +kernel
theorem dX6_day_1 : decode cX6_day 1 = .ok (.getfield 96, 3) := by decide +kernel
theorem dX6_day_4 : decode cX6_day 4 = .ok (.sipush 999, 3) := by decide +kernel
theorem dX6_day_7 : decode cX6_day 7 = .ok (.if_icmp .ne 6, 3) := by decide +kernel
theorem dX6_day_10 : decode cX6_day 10 = .ok (.bipush (-3), 2) := by decide +kernel
theorem dX6_day_12 : decode cX6_day 12 = .ok (.ireturn, 1) := by decide +kernel
theorem dX6_day_13 : decode cX6_day 13 = .ok (.aload_n 0, 1) := by decide +kernel
theorem dX6_day_14 : decode cX6_day 14 = .ok (.invokevirtual 230, 3) := by decide +kernel
theorem dX6_day_17 : decode cX6_day 17 = .ok (.aload_n 0, 1) := by decide +kernel
theorem dX6_day_18 : decode cX6_day 18 = .ok (.invokevirtual 233, 3) := by decide +kernel
theorem dX6_day_21 : decode cX6_day 21 = .ok (.ireturn, 1) := by decide +kernel
theorem dX6_drawsOff_0 : decode cX6_drawsOff 0 = .ok (.aload_n 0, 1) := by decide +kernel
theorem dX6_drawsOff_1 : decode cX6_drawsOff 1 = .ok (.getfield 16, 3) := by decide +kernel
theorem dX6_drawsOff_4 : decode cX6_drawsOff 4 = .ok (.iload_n 1, 1) := by decide +kernel
theorem dX6_drawsOff_5 : decode cX6_drawsOff 5 = .ok (.dup2, 1) := by decide +kernel
theorem dX6_drawsOff_6 : decode cX6_drawsOff 6 = .ok (.iaload, 1) := by decide +kernel
theorem dX6_drawsOff_7 : decode cX6_drawsOff 7 = .ok (.iload_n 3, 1) := by decide +kernel
theorem dX6_drawsOff_8 : decode cX6_drawsOff 8 = .ok (.isub, 1) := by decide +kernel
theorem dX6_drawsOff_9 : decode cX6_drawsOff 9 = .ok (.iastore, 1) := by decide +kernel
theorem dX6_drawsOff_10 : decode cX6_drawsOff 10 = .ok (.aload_n 0, 1) := by decide +kernel
theorem dX6_drawsOff_11 : decode cX6_drawsOff 11 = .ok (.getfield 16, 3) := by decide +kernel
theorem dX6_drawsOff_14 : decode cX6_drawsOff 14 = .ok (.iload_n 2, 1) := by decide +kernel
theorem dX6_drawsOff_15 : decode cX6_drawsOff 15 = .ok (.aload_n 0, 1) := by decide +kernel
theorem dX6_drawsOff_16 : decode cX6_drawsOff 16 = .ok (.getfield 16, 3) := by decide +kernel
theorem dX6_drawsOff_19 : decode cX6_drawsOff 19 = .ok (.iload_n 2, 1) := by decide +kernel
theorem dX6_drawsOff_20 : decode cX6_drawsOff 20 = .ok (.iaload, 1) := by decide +kernel
theorem dX6_drawsOff_21 : decode cX6_drawsOff 21 = .ok (.iload_n 3, 1) := by decide +kernel
theorem dX6_drawsOff_22 : decode cX6_drawsOff 22 = .ok (.iadd, 1) := by decide +kernel
theorem dX6_drawsOff_23 : decode cX6_drawsOff 23 = .ok (.iconst 0, 1) := by decide +kernel
theorem dX6_drawsOff_24 : decode cX6_drawsOff 24 = .ok (.sipush 999, 3) := by decide +kernel
theorem dX6_drawsOff_27 : decode cX6_drawsOff 27 = .ok (.invokestatic 227, 3) := by decide +kernel
theorem dX6_drawsOff_30 : decode cX6_drawsOff 30 = .ok (.iastore, 1) := by decide +kernel
theorem dX6_drawsOff_31 : decode cX6_drawsOff 31 = .ok (.aload_n 0, 1) := by decide +kernel
theorem dX6_drawsOff_32 : decode cX6_drawsOff 32 = .ok (.getfield 19, 3) := by decide +kernel
theorem dX6_drawsOff_35 : decode cX6_drawsOff 35 = .ok (.iload_n 2, 1) := by decide +kernel
theorem dX6_drawsOff_36 : decode cX6_drawsOff 36 = .ok (.aload_n 0, 1) := by decide +kernel
theorem dX6_drawsOff_37 : decode cX6_drawsOff 37 = .ok (.getfield 19, 3) := by decide +kernel
theorem dX6_drawsOff_40 : decode cX6_drawsOff 40 = .ok (.iload_n 2, 1) := by decide +kernel
theorem dX6_drawsOff_41 : decode cX6_drawsOff 41 = .ok (.iaload, 1) := by decide +kernel
theorem dX6_drawsOff_42 : decode cX6_drawsOff 42 = .ok (.iload_n 3, 1) := by decide +kernel
theorem dX6_drawsOff_43 : decode cX6_drawsOff 43 = .ok (.iadd, 1) := by decide +kernel
theorem dX6_drawsOff_44 : decode cX6_drawsOff 44 = .ok (.iconst 0, 1) := by decide +kernel
theorem dX6_drawsOff_45 : decode cX6_drawsOff 45 = .ok (.sipush 999, 3) := by decide +kernel
theorem dX6_drawsOff_48 : decode cX6_drawsOff 48 = .ok (.invokestatic 227, 3) := by decide +kernel
theorem dX6_drawsOff_51 : decode cX6_drawsOff 51 = .ok (.iastore, 1) := by decide +kernel
theorem dX6_drawsOff_52 : decode cX6_drawsOff 52 = .ok (.return_, 1) := by decide +kernel
theorem dX6_draw_0 : decode cX6_draw 0 = .ok (.aload_n 0, 1) := by decide +kernel
theorem dX6_draw_1 : decode cX6_draw 1 = .ok (.iload_n 1, 1) := by decide +kernel
theorem dX6_draw_2 : decode cX6_draw 2 = .ok (.invokevirtual 92, 3) := by decide +kernel
theorem dX6_draw_5 : decode cX6_draw 5 = .ok (.ifCond .eq 27, 3) := by decide +kernel
theorem dX6_draw_8 : decode cX6_draw 8 = .ok (.aload_n 0, 1) := by decide +kernel
theorem dX6_draw_9 : decode cX6_draw 9 = .ok (.iload_n 2, 1) := by decide +kernel
theorem dX6_draw_10 : decode cX6_draw 10 = .ok (.invokevirtual 92, 3) := by decide +kernel
theorem dX6_draw_13 : decode cX6_draw 13 = .ok (.ifCond .eq 19, 3) := by decide +kernel
theorem dX6_draw_16 : decode cX6_draw 16 = .ok (.iload_n 1, 1) := by decide +kernel
theorem dX6_draw_17 : decode cX6_draw 17 = .ok (.iload_n 2, 1) := by decide +kernel
theorem dX6_draw_18 : decode cX6_draw 18 = .ok (.if_icmp .eq 14, 3) := by decide +kernel
theorem dX6_draw_21 : decode cX6_draw 21 = .ok (.iload_n 3, 1) := by decide +kernel
theorem dX6_draw_22 : decode cX6_draw 22 = .ok (.iconst 0, 1) := by decide +kernel
theorem dX6_draw_23 : decode cX6_draw 23 = .ok (.sipush 999, 3) := by decide +kernel
theorem dX6_draw_26 : decode cX6_draw 26 = .ok (.invokestatic 88, 3) := by decide +kernel
theorem dX6_draw_29 : decode cX6_draw 29 = .ok (.ifCond .ne 6, 3) := by decide +kernel
theorem dX6_draw_32 : decode cX6_draw 32 = .ok (.bipush (-2), 2) := by decide +kernel
theorem dX6_draw_34 : decode cX6_draw 34 = .ok (.ireturn, 1) := by decide +kernel
theorem dX6_draw_35 : decode cX6_draw 35 = .ok (.aload_n 0, 1) := by decide +kernel
theorem dX6_draw_36 : decode cX6_draw 36 = .ok (.getfield 16, 3) := by decide +kernel
theorem dX6_draw_39 : decode cX6_draw 39 = .ok (.iload_n 1, 1) := by decide +kernel
theorem dX6_draw_40 : decode cX6_draw 40 = .ok (.iaload, 1) := by decide +kernel
theorem dX6_draw_41 : decode cX6_draw 41 = .ok (.iload_n 3, 1) := by decide +kernel
theorem dX6_draw_42 : decode cX6_draw 42 = .ok (.if_icmp .ge 6, 3) := by decide +kernel
theorem dX6_draw_45 : decode cX6_draw 45 = .ok (.bipush (-3), 2) := by decide +kernel
theorem dX6_draw_47 : decode cX6_draw 47 = .ok (.ireturn, 1) := by decide +kernel
theorem dX6_draw_48 : decode cX6_draw 48 = .ok (.aload_n 0, 1) := by decide +kernel
theorem dX6_draw_49 : decode cX6_draw 49 = .ok (.iload_n 1, 1) := by decide +kernel
theorem dX6_draw_50 : decode cX6_draw 50 = .ok (.iload_n 2, 1) := by decide +kernel
theorem dX6_draw_51 : decode cX6_draw 51 = .ok (.iload_n 3, 1) := by decide +kernel
theorem dX6_draw_52 : decode cX6_draw 52 = .ok (.invokevirtual 236, 3) := by decide +kernel
theorem dX6_draw_55 : decode cX6_draw 55 = .ok (.aload_n 0, 1) := by decide +kernel
theorem dX6_draw_56 : decode cX6_draw 56 = .ok (.getfield 16, 3) := by decide +kernel
theorem dX6_draw_59 : decode cX6_draw 59 = .ok (.iload_n 1, 1) := by decide +kernel
theorem dX6_draw_60 : decode cX6_draw 60 = .ok (.iaload, 1) := by decide +kernel
theorem dX6_draw_61 : decode cX6_draw 61 = .ok (.ireturn, 1) := by decide +kernel
theorem dX6_keeps_0 : decode cX6_keeps 0 = .ok (.aload_n 0, 1) := by decide +kernel
theorem dX6_keeps_1 : decode cX6_keeps 1 = .ok (.aload_n 0, 1) := by decide +kernel
theorem dX6_keeps_2 : decode cX6_keeps 2 = .ok (.getfield 96, 3) := by decide +kernel
theorem dX6_keeps_5 : decode cX6_keeps 5 = .ok (.putfield 240, 3) := by decide +kernel
theorem dX6_keeps_8 : decode cX6_keeps 8 = .ok (.aload_n 0, 1) := by decide +kernel
theorem dX6_keeps_9 : decode cX6_keeps 9 = .ok (.aload_n 0, 1) := by decide +kernel
theorem dX6_keeps_10 : decode cX6_keeps 10 = .ok (.getfield 99, 3) := by decide +kernel
theorem dX6_keeps_13 : decode cX6_keeps 13 = .ok (.putfield 243, 3) := by decide +kernel
theorem dX6_keeps_16 : decode cX6_keeps 16 = .ok (.iconst 0, 1) := by decide +kernel
theorem dX6_keeps_17 : decode cX6_keeps 17 = .ok (.istore_n 1, 1) := by decide +kernel
theorem dX6_keeps_18 : decode cX6_keeps 18 = .ok (.iload_n 1, 1) := by decide +kernel
theorem dX6_keeps_19 : decode cX6_keeps 19 = .ok (.iconst 5, 1) := by decide +kernel
theorem dX6_keeps_20 : decode cX6_keeps 20 = .ok (.if_icmp .ge 33, 3) := by decide +kernel
theorem dX6_keeps_23 : decode cX6_keeps 23 = .ok (.aload_n 0, 1) := by decide +kernel
theorem dX6_keeps_24 : decode cX6_keeps 24 = .ok (.getfield 43, 3) := by decide +kernel
theorem dX6_keeps_27 : decode cX6_keeps 27 = .ok (.iload_n 1, 1) := by decide +kernel
theorem dX6_keeps_28 : decode cX6_keeps 28 = .ok (.aload_n 0, 1) := by decide +kernel
theorem dX6_keeps_29 : decode cX6_keeps 29 = .ok (.getfield 16, 3) := by decide +kernel
theorem dX6_keeps_32 : decode cX6_keeps 32 = .ok (.iload_n 1, 1) := by decide +kernel
theorem dX6_keeps_33 : decode cX6_keeps 33 = .ok (.iaload, 1) := by decide +kernel
theorem dX6_keeps_34 : decode cX6_keeps 34 = .ok (.iastore, 1) := by decide +kernel
theorem dX6_keeps_35 : decode cX6_keeps 35 = .ok (.aload_n 0, 1) := by decide +kernel
theorem dX6_keeps_36 : decode cX6_keeps 36 = .ok (.getfield 46, 3) := by decide +kernel
theorem dX6_keeps_39 : decode cX6_keeps 39 = .ok (.iload_n 1, 1) := by decide +kernel
theorem dX6_keeps_40 : decode cX6_keeps 40 = .ok (.aload_n 0, 1) := by decide +kernel
theorem dX6_keeps_41 : decode cX6_keeps 41 = .ok (.getfield 19, 3) := by decide +kernel
theorem dX6_keeps_44 : decode cX6_keeps 44 = .ok (.iload_n 1, 1) := by decide +kernel
theorem dX6_keeps_45 : decode cX6_keeps 45 = .ok (.iaload, 1) := by decide +kernel
theorem dX6_keeps_46 : decode cX6_keeps 46 = .ok (.iastore, 1) := by decide +kernel
theorem dX6_keeps_47 : decode cX6_keeps 47 = .ok (.iinc 1 1, 3) := by decide +kernel
theorem dX6_keeps_50 : decode cX6_keeps 50 = .ok (.goto (-32), 3) := by decide +kernel
theorem dX6_keeps_53 : decode cX6_keeps 53 = .ok (.return_, 1) := by decide +kernel
theorem dX6_restores_0 : decode cX6_restores 0 = .ok (.aload_n 0, 1) := by decide +kernel
theorem dX6_restores_1 : decode cX6_restores 1 = .ok (.aload_n 0, 1) := by decide +kernel
theorem dX6_restores_2 : decode cX6_restores 2 = .ok (.getfield 240, 3) := by decide +kernel
theorem dX6_restores_5 : decode cX6_restores 5 = .ok (.putfield 96, 3) := by decide +kernel
theorem dX6_restores_8 : decode cX6_restores 8 = .ok (.aload_n 0, 1) := by decide +kernel
theorem dX6_restores_9 : decode cX6_restores 9 = .ok (.aload_n 0, 1) := by decide +kernel
theorem dX6_restores_10 : decode cX6_restores 10 = .ok (.getfield 243, 3) := by decide +kernel
theorem dX6_restores_13 : decode cX6_restores 13 = .ok (.putfield 99, 3) := by decide +kernel
theorem dX6_restores_16 : decode cX6_restores 16 = .ok (.iconst 0, 1) := by decide +kernel
theorem dX6_restores_17 : decode cX6_restores 17 = .ok (.istore_n 1, 1) := by decide +kernel
theorem dX6_restores_18 : decode cX6_restores 18 = .ok (.iload_n 1, 1) := by decide +kernel
theorem dX6_restores_19 : decode cX6_restores 19 = .ok (.iconst 5, 1) := by decide +kernel
theorem dX6_restores_20 : decode cX6_restores 20 = .ok (.if_icmp .ge 33, 3) := by decide +kernel
theorem dX6_restores_23 : decode cX6_restores 23 = .ok (.aload_n 0, 1) := by decide +kernel
theorem dX6_restores_24 : decode cX6_restores 24 = .ok (.getfield 16, 3) := by decide +kernel
theorem dX6_restores_27 : decode cX6_restores 27 = .ok (.iload_n 1, 1) := by decide +kernel
theorem dX6_restores_28 : decode cX6_restores 28 = .ok (.aload_n 0, 1) := by decide +kernel
theorem dX6_restores_29 : decode cX6_restores 29 = .ok (.getfield 43, 3) := by decide +kernel
theorem dX6_restores_32 : decode cX6_restores 32 = .ok (.iload_n 1, 1) := by decide +kernel
theorem dX6_restores_33 : decode cX6_restores 33 = .ok (.iaload, 1) := by decide +kernel
theorem dX6_restores_34 : decode cX6_restores 34 = .ok (.iastore, 1) := by decide +kernel
theorem dX6_restores_35 : decode cX6_restores 35 = .ok (.aload_n 0, 1) := by decide +kernel
theorem dX6_restores_36 : decode cX6_restores 36 = .ok (.getfield 19, 3) := by decide +kernel
theorem dX6_restores_39 : decode cX6_restores 39 = .ok (.iload_n 1, 1) := by decide +kernel
theorem dX6_restores_40 : decode cX6_restores 40 = .ok (.aload_n 0, 1) := by decide +kernel
theorem dX6_restores_41 : decode cX6_restores 41 = .ok (.getfield 46, 3) := by decide +kernel
theorem dX6_restores_44 : decode cX6_restores 44 = .ok (.iload_n 1, 1) := by decide +kernel
theorem dX6_restores_45 : decode cX6_restores 45 = .ok (.iaload, 1) := by decide +kernel
theorem dX6_restores_46 : decode cX6_restores 46 = .ok (.iastore, 1) := by decide +kernel
theorem dX6_restores_47 : decode cX6_restores 47 = .ok (.iinc 1 1, 3) := by decide +kernel
theorem dX6_restores_50 : decode cX6_restores 50 = .ok (.goto (-32), 3) := by decide +kernel
theorem dX6_restores_53 : decode cX6_restores 53 = .ok (.return_, 1) := by decide +kernel
theorem dX6_run_0 : decode cX6_run 0 = .ok (.aload_n 0, 1) := by decide +kernel
theorem dX6_run_1 : decode cX6_run 1 = .ok (.iload_n 1, 1) := by decide +kernel
theorem dX6_run_2 : decode cX6_run 2 = .ok (.invokevirtual 92, 3) := by decide +kernel
theorem dX6_run_5 : decode cX6_run 5 = .ok (.ifCond .eq 22, 3) := by decide +kernel
theorem dX6_run_8 : decode cX6_run 8 = .ok (.iload_n 2, 1) := by decide +kernel
theorem dX6_run_9 : decode cX6_run 9 = .ok (.iconst 0, 1) := by decide +kernel
theorem dX6_run_10 : decode cX6_run 10 = .ok (.bipush 40, 2) := by decide +kernel
theorem dX6_run_12 : decode cX6_run 12 = .ok (.invokestatic 88, 3) := by decide +kernel
theorem dX6_run_15 : decode cX6_run 15 = .ok (.ifCond .eq 12, 3) := by decide +kernel
theorem dX6_run_18 : decode cX6_run 18 = .ok (.iload_n 3, 1) := by decide +kernel
theorem dX6_run_19 : decode cX6_run 19 = .ok (.iconst 0, 1) := by decide +kernel
theorem dX6_run_20 : decode cX6_run 20 = .ok (.iconst 2, 1) := by decide +kernel
theorem dX6_run_21 : decode cX6_run 21 = .ok (.invokestatic 88, 3) := by decide +kernel
theorem dX6_run_24 : decode cX6_run 24 = .ok (.ifCond .ne 6, 3) := by decide +kernel
theorem dX6_run_27 : decode cX6_run 27 = .ok (.bipush (-2), 2) := by decide +kernel
theorem dX6_run_29 : decode cX6_run 29 = .ok (.ireturn, 1) := by decide +kernel
theorem dX6_run_30 : decode cX6_run 30 = .ok (.aload_n 0, 1) := by decide +kernel
theorem dX6_run_31 : decode cX6_run 31 = .ok (.invokevirtual 246, 3) := by decide +kernel
theorem dX6_run_34 : decode cX6_run 34 = .ok (.iconst 0, 1) := by decide +kernel
theorem dX6_run_35 : decode cX6_run 35 = .ok (.istore 4, 2) := by decide +kernel
theorem dX6_run_37 : decode cX6_run 37 = .ok (.iload 4, 2) := by decide +kernel
theorem dX6_run_39 : decode cX6_run 39 = .ok (.iload_n 2, 1) := by decide +kernel
theorem dX6_run_40 : decode cX6_run 40 = .ok (.if_icmp .ge 13, 3) := by decide +kernel
theorem dX6_run_43 : decode cX6_run 43 = .ok (.aload_n 0, 1) := by decide +kernel
theorem dX6_run_44 : decode cX6_run 44 = .ok (.invokevirtual 230, 3) := by decide +kernel
theorem dX6_run_47 : decode cX6_run 47 = .ok (.iinc 4 1, 3) := by decide +kernel
theorem dX6_run_50 : decode cX6_run 50 = .ok (.goto (-13), 3) := by decide +kernel
theorem dX6_run_53 : decode cX6_run 53 = .ok (.iload_n 3, 1) := by decide +kernel
theorem dX6_run_54 : decode cX6_run 54 = .ok (.ifCond .ne 12, 3) := by decide +kernel
theorem dX6_run_57 : decode cX6_run 57 = .ok (.aload_n 0, 1) := by decide +kernel
theorem dX6_run_58 : decode cX6_run 58 = .ok (.getfield 16, 3) := by decide +kernel
theorem dX6_run_61 : decode cX6_run 61 = .ok (.iload_n 1, 1) := by decide +kernel
theorem dX6_run_62 : decode cX6_run 62 = .ok (.iaload, 1) := by decide +kernel
theorem dX6_run_63 : decode cX6_run 63 = .ok (.goto 20, 3) := by decide +kernel
theorem dX6_run_66 : decode cX6_run 66 = .ok (.iload_n 3, 1) := by decide +kernel
theorem dX6_run_67 : decode cX6_run 67 = .ok (.iconst 1, 1) := by decide +kernel
theorem dX6_run_68 : decode cX6_run 68 = .ok (.if_icmp .ne 11, 3) := by decide +kernel
theorem dX6_run_71 : decode cX6_run 71 = .ok (.aload_n 0, 1) := by decide +kernel
theorem dX6_run_72 : decode cX6_run 72 = .ok (.iload_n 1, 1) := by decide +kernel
theorem dX6_run_73 : decode cX6_run 73 = .ok (.invokevirtual 120, 3) := by decide +kernel
theorem dX6_run_76 : decode cX6_run 76 = .ok (.goto 7, 3) := by decide +kernel
theorem dX6_run_79 : decode cX6_run 79 = .ok (.aload_n 0, 1) := by decide +kernel
theorem dX6_run_80 : decode cX6_run 80 = .ok (.invokevirtual 233, 3) := by decide +kernel
theorem dX6_run_83 : decode cX6_run 83 = .ok (.istore 4, 2) := by decide +kernel
theorem dX6_run_85 : decode cX6_run 85 = .ok (.aload_n 0, 1) := by decide +kernel
theorem dX6_run_86 : decode cX6_run 86 = .ok (.invokevirtual 249, 3) := by decide +kernel
theorem dX6_run_89 : decode cX6_run 89 = .ok (.iload 4, 2) := by decide +kernel
theorem dX6_run_91 : decode cX6_run 91 = .ok (.ireturn, 1) := by decide +kernel
theorem dX6_longest_0 : decode cX6_longest 0 = .ok (.iconst (-1), 1) := by decide +kernel
theorem dX6_longest_1 : decode cX6_longest 1 = .ok (.istore_n 1, 1) := by decide +kernel
theorem dX6_longest_2 : decode cX6_longest 2 = .ok (.iconst 0, 1) := by decide +kernel
theorem dX6_longest_3 : decode cX6_longest 3 = .ok (.istore_n 2, 1) := by decide +kernel
theorem dX6_longest_4 : decode cX6_longest 4 = .ok (.iconst 0, 1) := by decide +kernel
theorem dX6_longest_5 : decode cX6_longest 5 = .ok (.istore_n 3, 1) := by decide +kernel
theorem dX6_longest_6 : decode cX6_longest 6 = .ok (.iload_n 3, 1) := by decide +kernel
theorem dX6_longest_7 : decode cX6_longest 7 = .ok (.aload_n 0, 1) := by decide +kernel
theorem dX6_longest_8 : decode cX6_longest 8 = .ok (.getfield 85, 3) := by decide +kernel
theorem dX6_longest_11 : decode cX6_longest 11 = .ok (.if_icmp .ge 35, 3) := by decide +kernel
theorem dX6_longest_14 : decode cX6_longest 14 = .ok (.aload_n 0, 1) := by decide +kernel
theorem dX6_longest_15 : decode cX6_longest 15 = .ok (.iload_n 3, 1) := by decide +kernel
theorem dX6_longest_16 : decode cX6_longest 16 = .ok (.invokevirtual 120, 3) := by decide +kernel
theorem dX6_longest_19 : decode cX6_longest 19 = .ok (.istore 4, 2) := by decide +kernel
theorem dX6_longest_21 : decode cX6_longest 21 = .ok (.iload_n 1, 1) := by decide +kernel
theorem dX6_longest_22 : decode cX6_longest 22 = .ok (.iconst (-1), 1) := by decide +kernel
theorem dX6_longest_23 : decode cX6_longest 23 = .ok (.if_icmp .eq 12, 3) := by decide +kernel
theorem dX6_longest_26 : decode cX6_longest 26 = .ok (.iload 4, 2) := by decide +kernel
theorem dX6_longest_28 : decode cX6_longest 28 = .ok (.iload_n 2, 1) := by decide +kernel
theorem dX6_longest_29 : decode cX6_longest 29 = .ok (.if_icmp .gt 6, 3) := by decide +kernel
theorem dX6_longest_32 : decode cX6_longest 32 = .ok (.goto 8, 3) := by decide +kernel
theorem dX6_longest_35 : decode cX6_longest 35 = .ok (.iload 4, 2) := by decide +kernel
theorem dX6_longest_37 : decode cX6_longest 37 = .ok (.istore_n 2, 1) := by decide +kernel
theorem dX6_longest_38 : decode cX6_longest 38 = .ok (.iload_n 3, 1) := by decide +kernel
theorem dX6_longest_39 : decode cX6_longest 39 = .ok (.istore_n 1, 1) := by decide +kernel
theorem dX6_longest_40 : decode cX6_longest 40 = .ok (.iinc 3 1, 3) := by decide +kernel
theorem dX6_longest_43 : decode cX6_longest 43 = .ok (.goto (-37), 3) := by decide +kernel
theorem dX6_longest_46 : decode cX6_longest 46 = .ok (.iload_n 1, 1) := by decide +kernel
theorem dX6_longest_47 : decode cX6_longest 47 = .ok (.ireturn, 1) := by decide +kernel
theorem dX6_clogged_0 : decode cX6_clogged 0 = .ok (.iconst 0, 1) := by decide +kernel
theorem dX6_clogged_1 : decode cX6_clogged 1 = .ok (.istore_n 1, 1) := by decide +kernel
theorem dX6_clogged_2 : decode cX6_clogged 2 = .ok (.iconst 0, 1) := by decide +kernel
theorem dX6_clogged_3 : decode cX6_clogged 3 = .ok (.istore_n 2, 1) := by decide +kernel
theorem dX6_clogged_4 : decode cX6_clogged 4 = .ok (.iload_n 2, 1) := by decide +kernel
theorem dX6_clogged_5 : decode cX6_clogged 5 = .ok (.aload_n 0, 1) := by decide +kernel
theorem dX6_clogged_6 : decode cX6_clogged 6 = .ok (.getfield 85, 3) := by decide +kernel
theorem dX6_clogged_9 : decode cX6_clogged 9 = .ok (.if_icmp .ge 23, 3) := by decide +kernel
theorem dX6_clogged_12 : decode cX6_clogged 12 = .ok (.aload_n 0, 1) := by decide +kernel
theorem dX6_clogged_13 : decode cX6_clogged 13 = .ok (.iload_n 2, 1) := by decide +kernel
theorem dX6_clogged_14 : decode cX6_clogged 14 = .ok (.invokevirtual 114, 3) := by decide +kernel
theorem dX6_clogged_17 : decode cX6_clogged 17 = .ok (.ifCond .eq 9, 3) := by decide +kernel
theorem dX6_clogged_20 : decode cX6_clogged 20 = .ok (.iload_n 1, 1) := by decide +kernel
theorem dX6_clogged_21 : decode cX6_clogged 21 = .ok (.iconst 1, 1) := by decide +kernel
theorem dX6_clogged_22 : decode cX6_clogged 22 = .ok (.iload_n 2, 1) := by decide +kernel
theorem dX6_clogged_23 : decode cX6_clogged 23 = .ok (.ishl, 1) := by decide +kernel
theorem dX6_clogged_24 : decode cX6_clogged 24 = .ok (.ior, 1) := by decide +kernel
theorem dX6_clogged_25 : decode cX6_clogged 25 = .ok (.istore_n 1, 1) := by decide +kernel
theorem dX6_clogged_26 : decode cX6_clogged 26 = .ok (.iinc 2 1, 3) := by decide +kernel
theorem dX6_clogged_29 : decode cX6_clogged 29 = .ok (.goto (-25), 3) := by decide +kernel
theorem dX6_clogged_32 : decode cX6_clogged 32 = .ok (.iload_n 1, 1) := by decide +kernel
theorem dX6_clogged_33 : decode cX6_clogged 33 = .ok (.ireturn, 1) := by decide +kernel
theorem dX6_all_0 : decode cX6_all 0 = .ok (.aload_n 0, 1) := by decide +kernel
theorem dX6_all_1 : decode cX6_all 1 = .ok (.invokevirtual 252, 3) := by decide +kernel
theorem dX6_all_4 : decode cX6_all 4 = .ok (.istore_n 2, 1) := by decide +kernel
theorem dX6_all_5 : decode cX6_all 5 = .ok (.iload_n 1, 1) := by decide +kernel
theorem dX6_all_6 : decode cX6_all 6 = .ok (.tableswitch 57 0 3 #[30, 32, 47, 52], 30) := by decide +kernel
theorem dX6_all_36 : decode cX6_all 36 = .ok (.iload_n 2, 1) := by decide +kernel
theorem dX6_all_37 : decode cX6_all 37 = .ok (.ireturn, 1) := by decide +kernel
theorem dX6_all_38 : decode cX6_all 38 = .ok (.iload_n 2, 1) := by decide +kernel
theorem dX6_all_39 : decode cX6_all 39 = .ok (.iconst (-1), 1) := by decide +kernel
theorem dX6_all_40 : decode cX6_all 40 = .ok (.if_icmp .ne 7, 3) := by decide +kernel
theorem dX6_all_43 : decode cX6_all 43 = .ok (.iconst 0, 1) := by decide +kernel
theorem dX6_all_44 : decode cX6_all 44 = .ok (.goto 8, 3) := by decide +kernel
theorem dX6_all_47 : decode cX6_all 47 = .ok (.aload_n 0, 1) := by decide +kernel
theorem dX6_all_48 : decode cX6_all 48 = .ok (.iload_n 2, 1) := by decide +kernel
theorem dX6_all_49 : decode cX6_all 49 = .ok (.invokevirtual 120, 3) := by decide +kernel
theorem dX6_all_52 : decode cX6_all 52 = .ok (.ireturn, 1) := by decide +kernel
theorem dX6_all_53 : decode cX6_all 53 = .ok (.aload_n 0, 1) := by decide +kernel
theorem dX6_all_54 : decode cX6_all 54 = .ok (.invokevirtual 255, 3) := by decide +kernel
theorem dX6_all_57 : decode cX6_all 57 = .ok (.ireturn, 1) := by decide +kernel
theorem dX6_all_58 : decode cX6_all 58 = .ok (.aload_n 0, 1) := by decide +kernel
theorem dX6_all_59 : decode cX6_all 59 = .ok (.invokevirtual 218, 3) := by decide +kernel
theorem dX6_all_62 : decode cX6_all 62 = .ok (.ireturn, 1) := by decide +kernel
theorem dX6_all_63 : decode cX6_all 63 = .ok (.bipush (-2), 2) := by decide +kernel
theorem dX6_all_65 : decode cX6_all 65 = .ok (.ireturn, 1) := by decide +kernel
theorem dX6_pours_0 : decode cX6_pours 0 = .ok (.aload_n 0, 1) := by decide +kernel
theorem dX6_pours_1 : decode cX6_pours 1 = .ok (.aload_n 0, 1) := by decide +kernel
theorem dX6_pours_2 : decode cX6_pours 2 = .ok (.iload_n 1, 1) := by decide +kernel
theorem dX6_pours_3 : decode cX6_pours 3 = .ok (.bipush 100, 2) := by decide +kernel
theorem dX6_pours_5 : decode cX6_pours 5 = .ok (.idiv, 1) := by decide +kernel
theorem dX6_pours_6 : decode cX6_pours 6 = .ok (.invokevirtual 120, 3) := by decide +kernel
theorem dX6_pours_9 : decode cX6_pours 9 = .ok (.putfield 258, 3) := by decide +kernel
theorem dX6_pours_12 : decode cX6_pours 12 = .ok (.aload_n 0, 1) := by decide +kernel
theorem dX6_pours_13 : decode cX6_pours 13 = .ok (.aload_n 0, 1) := by decide +kernel
theorem dX6_pours_14 : decode cX6_pours 14 = .ok (.iload_n 1, 1) := by decide +kernel
theorem dX6_pours_15 : decode cX6_pours 15 = .ok (.bipush 10, 2) := by decide +kernel
theorem dX6_pours_17 : decode cX6_pours 17 = .ok (.idiv, 1) := by decide +kernel
theorem dX6_pours_18 : decode cX6_pours 18 = .ok (.bipush 10, 2) := by decide +kernel
theorem dX6_pours_20 : decode cX6_pours 20 = .ok (.irem, 1) := by decide +kernel
theorem dX6_pours_21 : decode cX6_pours 21 = .ok (.invokevirtual 120, 3) := by decide +kernel
theorem dX6_pours_24 : decode cX6_pours 24 = .ok (.putfield 260, 3) := by decide +kernel
theorem dX6_pours_27 : decode cX6_pours 27 = .ok (.aload_n 0, 1) := by decide +kernel
theorem dX6_pours_28 : decode cX6_pours 28 = .ok (.aload_n 0, 1) := by decide +kernel
theorem dX6_pours_29 : decode cX6_pours 29 = .ok (.iload_n 1, 1) := by decide +kernel
theorem dX6_pours_30 : decode cX6_pours 30 = .ok (.bipush 10, 2) := by decide +kernel
theorem dX6_pours_32 : decode cX6_pours 32 = .ok (.irem, 1) := by decide +kernel
theorem dX6_pours_33 : decode cX6_pours 33 = .ok (.invokevirtual 120, 3) := by decide +kernel
theorem dX6_pours_36 : decode cX6_pours 36 = .ok (.putfield 263, 3) := by decide +kernel
theorem dX6_pours_39 : decode cX6_pours 39 = .ok (.return_, 1) := by decide +kernel
theorem dX6_turned_0 : decode cX6_turned 0 = .ok (.iload_n 1, 1) := by decide +kernel
theorem dX6_turned_1 : decode cX6_turned 1 = .ok (.bipush 100, 2) := by decide +kernel
theorem dX6_turned_3 : decode cX6_turned 3 = .ok (.idiv, 1) := by decide +kernel
theorem dX6_turned_4 : decode cX6_turned 4 = .ok (.istore_n 3, 1) := by decide +kernel
theorem dX6_turned_5 : decode cX6_turned 5 = .ok (.iload_n 1, 1) := by decide +kernel
theorem dX6_turned_6 : decode cX6_turned 6 = .ok (.bipush 10, 2) := by decide +kernel
theorem dX6_turned_8 : decode cX6_turned 8 = .ok (.idiv, 1) := by decide +kernel
theorem dX6_turned_9 : decode cX6_turned 9 = .ok (.bipush 10, 2) := by decide +kernel
theorem dX6_turned_11 : decode cX6_turned 11 = .ok (.irem, 1) := by decide +kernel
theorem dX6_turned_12 : decode cX6_turned 12 = .ok (.istore 4, 2) := by decide +kernel
theorem dX6_turned_14 : decode cX6_turned 14 = .ok (.iload_n 1, 1) := by decide +kernel
theorem dX6_turned_15 : decode cX6_turned 15 = .ok (.bipush 10, 2) := by decide +kernel
theorem dX6_turned_17 : decode cX6_turned 17 = .ok (.irem, 1) := by decide +kernel
theorem dX6_turned_18 : decode cX6_turned 18 = .ok (.istore 5, 2) := by decide +kernel
theorem dX6_turned_20 : decode cX6_turned 20 = .ok (.iload_n 2, 1) := by decide +kernel
theorem dX6_turned_21 : decode cX6_turned 21 = .ok (.iconst 1, 1) := by decide +kernel
theorem dX6_turned_22 : decode cX6_turned 22 = .ok (.iand, 1) := by decide +kernel
theorem dX6_turned_23 : decode cX6_turned 23 = .ok (.ifCond .eq 10, 3) := by decide +kernel
theorem dX6_turned_26 : decode cX6_turned 26 = .ok (.aload_n 0, 1) := by decide +kernel
theorem dX6_turned_27 : decode cX6_turned 27 = .ok (.getfield 258, 3) := by decide +kernel
theorem dX6_turned_30 : decode cX6_turned 30 = .ok (.iload_n 3, 1) := by decide +kernel
theorem dX6_turned_31 : decode cX6_turned 31 = .ok (.isub, 1) := by decide +kernel
theorem dX6_turned_32 : decode cX6_turned 32 = .ok (.istore_n 3, 1) := by decide +kernel
theorem dX6_turned_33 : decode cX6_turned 33 = .ok (.iload_n 2, 1) := by decide +kernel
theorem dX6_turned_34 : decode cX6_turned 34 = .ok (.iconst 2, 1) := by decide +kernel
theorem dX6_turned_35 : decode cX6_turned 35 = .ok (.iand, 1) := by decide +kernel
theorem dX6_turned_36 : decode cX6_turned 36 = .ok (.ifCond .eq 12, 3) := by decide +kernel
theorem dX6_turned_39 : decode cX6_turned 39 = .ok (.aload_n 0, 1) := by decide +kernel
theorem dX6_turned_40 : decode cX6_turned 40 = .ok (.getfield 260, 3) := by decide +kernel
theorem dX6_turned_43 : decode cX6_turned 43 = .ok (.iload 4, 2) := by decide +kernel
theorem dX6_turned_45 : decode cX6_turned 45 = .ok (.isub, 1) := by decide +kernel
theorem dX6_turned_46 : decode cX6_turned 46 = .ok (.istore 4, 2) := by decide +kernel
theorem dX6_turned_48 : decode cX6_turned 48 = .ok (.iload_n 2, 1) := by decide +kernel
theorem dX6_turned_49 : decode cX6_turned 49 = .ok (.iconst 4, 1) := by decide +kernel
theorem dX6_turned_50 : decode cX6_turned 50 = .ok (.iand, 1) := by decide +kernel
theorem dX6_turned_51 : decode cX6_turned 51 = .ok (.ifCond .eq 12, 3) := by decide +kernel
theorem dX6_turned_54 : decode cX6_turned 54 = .ok (.aload_n 0, 1) := by decide +kernel
theorem dX6_turned_55 : decode cX6_turned 55 = .ok (.getfield 263, 3) := by decide +kernel
theorem dX6_turned_58 : decode cX6_turned 58 = .ok (.iload 5, 2) := by decide +kernel
theorem dX6_turned_60 : decode cX6_turned 60 = .ok (.isub, 1) := by decide +kernel
theorem dX6_turned_61 : decode cX6_turned 61 = .ok (.istore 5, 2) := by decide +kernel
theorem dX6_turned_63 : decode cX6_turned 63 = .ok (.iload_n 3, 1) := by decide +kernel
theorem dX6_turned_64 : decode cX6_turned 64 = .ok (.istore 6, 2) := by decide +kernel
theorem dX6_turned_66 : decode cX6_turned 66 = .ok (.iload 4, 2) := by decide +kernel
theorem dX6_turned_68 : decode cX6_turned 68 = .ok (.ifCond .le 19, 3) := by decide +kernel
theorem dX6_turned_71 : decode cX6_turned 71 = .ok (.iload 6, 2) := by decide +kernel
theorem dX6_turned_73 : decode cX6_turned 73 = .ok (.ifCond .eq 10, 3) := by decide +kernel
theorem dX6_turned_76 : decode cX6_turned 76 = .ok (.iload 4, 2) := by decide +kernel
theorem dX6_turned_78 : decode cX6_turned 78 = .ok (.iload 6, 2) := by decide +kernel
theorem dX6_turned_80 : decode cX6_turned 80 = .ok (.if_icmp .ge 7, 3) := by decide +kernel
theorem dX6_turned_83 : decode cX6_turned 83 = .ok (.iload 4, 2) := by decide +kernel
theorem dX6_turned_85 : decode cX6_turned 85 = .ok (.istore 6, 2) := by decide +kernel
theorem dX6_turned_87 : decode cX6_turned 87 = .ok (.iload 5, 2) := by decide +kernel
theorem dX6_turned_89 : decode cX6_turned 89 = .ok (.ifCond .le 19, 3) := by decide +kernel
theorem dX6_turned_92 : decode cX6_turned 92 = .ok (.iload 6, 2) := by decide +kernel
theorem dX6_turned_94 : decode cX6_turned 94 = .ok (.ifCond .eq 10, 3) := by decide +kernel
theorem dX6_turned_97 : decode cX6_turned 97 = .ok (.iload 5, 2) := by decide +kernel
theorem dX6_turned_99 : decode cX6_turned 99 = .ok (.iload 6, 2) := by decide +kernel
theorem dX6_turned_101 : decode cX6_turned 101 = .ok (.if_icmp .ge 7, 3) := by decide +kernel
theorem dX6_turned_104 : decode cX6_turned 104 = .ok (.iload 5, 2) := by decide +kernel
theorem dX6_turned_106 : decode cX6_turned 106 = .ok (.istore 6, 2) := by decide +kernel
theorem dX6_turned_108 : decode cX6_turned 108 = .ok (.aload_n 0, 1) := by decide +kernel
theorem dX6_turned_109 : decode cX6_turned 109 = .ok (.iload 6, 2) := by decide +kernel
theorem dX6_turned_111 : decode cX6_turned 111 = .ok (.putfield 266, 3) := by decide +kernel
theorem dX6_turned_114 : decode cX6_turned 114 = .ok (.aload_n 0, 1) := by decide +kernel
theorem dX6_turned_115 : decode cX6_turned 115 = .ok (.bipush 100, 2) := by decide +kernel
theorem dX6_turned_117 : decode cX6_turned 117 = .ok (.iload_n 3, 1) := by decide +kernel
theorem dX6_turned_118 : decode cX6_turned 118 = .ok (.iload 6, 2) := by decide +kernel
theorem dX6_turned_120 : decode cX6_turned 120 = .ok (.isub, 1) := by decide +kernel
theorem dX6_turned_121 : decode cX6_turned 121 = .ok (.iconst 0, 1) := by decide +kernel
theorem dX6_turned_122 : decode cX6_turned 122 = .ok (.bipush 9, 2) := by decide +kernel
theorem dX6_turned_124 : decode cX6_turned 124 = .ok (.invokestatic 227, 3) := by decide +kernel
theorem dX6_turned_127 : decode cX6_turned 127 = .ok (.imul, 1) := by decide +kernel
theorem dX6_turned_128 : decode cX6_turned 128 = .ok (.bipush 10, 2) := by decide +kernel
theorem dX6_turned_130 : decode cX6_turned 130 = .ok (.iload 4, 2) := by decide +kernel
theorem dX6_turned_132 : decode cX6_turned 132 = .ok (.iload 6, 2) := by decide +kernel
theorem dX6_turned_134 : decode cX6_turned 134 = .ok (.isub, 1) := by decide +kernel
theorem dX6_turned_135 : decode cX6_turned 135 = .ok (.iconst 0, 1) := by decide +kernel
theorem dX6_turned_136 : decode cX6_turned 136 = .ok (.bipush 9, 2) := by decide +kernel
theorem dX6_turned_138 : decode cX6_turned 138 = .ok (.invokestatic 227, 3) := by decide +kernel
theorem dX6_turned_141 : decode cX6_turned 141 = .ok (.imul, 1) := by decide +kernel
theorem dX6_turned_142 : decode cX6_turned 142 = .ok (.iadd, 1) := by decide +kernel
theorem dX6_turned_143 : decode cX6_turned 143 = .ok (.iload 5, 2) := by decide +kernel
theorem dX6_turned_145 : decode cX6_turned 145 = .ok (.iload 6, 2) := by decide +kernel
theorem dX6_turned_147 : decode cX6_turned 147 = .ok (.isub, 1) := by decide +kernel
theorem dX6_turned_148 : decode cX6_turned 148 = .ok (.iconst 0, 1) := by decide +kernel
theorem dX6_turned_149 : decode cX6_turned 149 = .ok (.bipush 9, 2) := by decide +kernel
theorem dX6_turned_151 : decode cX6_turned 151 = .ok (.invokestatic 227, 3) := by decide +kernel
theorem dX6_turned_154 : decode cX6_turned 154 = .ok (.iadd, 1) := by decide +kernel
theorem dX6_turned_155 : decode cX6_turned 155 = .ok (.putfield 269, 3) := by decide +kernel
theorem dX6_turned_158 : decode cX6_turned 158 = .ok (.return_, 1) := by decide +kernel
theorem dX6_sizeOf_0 : decode cX6_sizeOf 0 = .ok (.iload_n 0, 1) := by decide +kernel
theorem dX6_sizeOf_1 : decode cX6_sizeOf 1 = .ok (.iconst 1, 1) := by decide +kernel
theorem dX6_sizeOf_2 : decode cX6_sizeOf 2 = .ok (.iand, 1) := by decide +kernel
theorem dX6_sizeOf_3 : decode cX6_sizeOf 3 = .ok (.iload_n 0, 1) := by decide +kernel
theorem dX6_sizeOf_4 : decode cX6_sizeOf 4 = .ok (.iconst 1, 1) := by decide +kernel
theorem dX6_sizeOf_5 : decode cX6_sizeOf 5 = .ok (.ishr, 1) := by decide +kernel
theorem dX6_sizeOf_6 : decode cX6_sizeOf 6 = .ok (.iconst 1, 1) := by decide +kernel
theorem dX6_sizeOf_7 : decode cX6_sizeOf 7 = .ok (.iand, 1) := by decide +kernel
theorem dX6_sizeOf_8 : decode cX6_sizeOf 8 = .ok (.iadd, 1) := by decide +kernel
theorem dX6_sizeOf_9 : decode cX6_sizeOf 9 = .ok (.iload_n 0, 1) := by decide +kernel
theorem dX6_sizeOf_10 : decode cX6_sizeOf 10 = .ok (.iconst 2, 1) := by decide +kernel
theorem dX6_sizeOf_11 : decode cX6_sizeOf 11 = .ok (.ishr, 1) := by decide +kernel
theorem dX6_sizeOf_12 : decode cX6_sizeOf 12 = .ok (.iconst 1, 1) := by decide +kernel
theorem dX6_sizeOf_13 : decode cX6_sizeOf 13 = .ok (.iand, 1) := by decide +kernel
theorem dX6_sizeOf_14 : decode cX6_sizeOf 14 = .ok (.iadd, 1) := by decide +kernel
theorem dX6_sizeOf_15 : decode cX6_sizeOf 15 = .ok (.ireturn, 1) := by decide +kernel
theorem dX6_toldTimes_0 : decode cX6_toldTimes 0 = .ok (.iconst 0, 1) := by decide +kernel
theorem dX6_toldTimes_1 : decode cX6_toldTimes 1 = .ok (.istore_n 1, 1) := by decide +kernel
theorem dX6_toldTimes_2 : decode cX6_toldTimes 2 = .ok (.iload_n 1, 1) := by decide +kernel
theorem dX6_toldTimes_3 : decode cX6_toldTimes 3 = .ok (.sipush 31000, 3) := by decide +kernel
theorem dX6_toldTimes_6 : decode cX6_toldTimes 6 = .ok (.if_icmp .ge 24, 3) := by decide +kernel
theorem dX6_toldTimes_9 : decode cX6_toldTimes 9 = .ok (.aload_n 0, 1) := by decide +kernel
theorem dX6_toldTimes_10 : decode cX6_toldTimes 10 = .ok (.getfield 52, 3) := by decide +kernel
theorem dX6_toldTimes_13 : decode cX6_toldTimes 13 = .ok (.iload_n 1, 1) := by decide +kernel
theorem dX6_toldTimes_14 : decode cX6_toldTimes 14 = .ok (.iload_n 1, 1) := by decide +kernel
theorem dX6_toldTimes_15 : decode cX6_toldTimes 15 = .ok (.ifCond .ne 7, 3) := by decide +kernel
theorem dX6_toldTimes_18 : decode cX6_toldTimes 18 = .ok (.iconst 1, 1) := by decide +kernel
theorem dX6_toldTimes_19 : decode cX6_toldTimes 19 = .ok (.goto 4, 3) := by decide +kernel
theorem dX6_toldTimes_22 : decode cX6_toldTimes 22 = .ok (.iconst 0, 1) := by decide +kernel
theorem dX6_toldTimes_23 : decode cX6_toldTimes 23 = .ok (.bastore, 1) := by decide +kernel
theorem dX6_toldTimes_24 : decode cX6_toldTimes 24 = .ok (.iinc 1 1, 3) := by decide +kernel
theorem dX6_toldTimes_27 : decode cX6_toldTimes 27 = .ok (.goto (-25), 3) := by decide +kernel
theorem dX6_toldTimes_30 : decode cX6_toldTimes 30 = .ok (.lconst 0, 1) := by decide +kernel
theorem dX6_toldTimes_31 : decode cX6_toldTimes 31 = .ok (.lstore_n 1, 1) := by decide +kernel
theorem dX6_toldTimes_32 : decode cX6_toldTimes 32 = .ok (.iconst 0, 1) := by decide +kernel
theorem dX6_toldTimes_33 : decode cX6_toldTimes 33 = .ok (.istore_n 3, 1) := by decide +kernel
theorem dX6_toldTimes_34 : decode cX6_toldTimes 34 = .ok (.iload_n 3, 1) := by decide +kernel
theorem dX6_toldTimes_35 : decode cX6_toldTimes 35 = .ok (.bipush 30, 2) := by decide +kernel
theorem dX6_toldTimes_37 : decode cX6_toldTimes 37 = .ok (.if_icmp .ge 122, 3) := by decide +kernel
theorem dX6_toldTimes_40 : decode cX6_toldTimes 40 = .ok (.iconst 0, 1) := by decide +kernel
theorem dX6_toldTimes_41 : decode cX6_toldTimes 41 = .ok (.istore 4, 2) := by decide +kernel
theorem dX6_toldTimes_43 : decode cX6_toldTimes 43 = .ok (.iload 4, 2) := by decide +kernel
theorem dX6_toldTimes_45 : decode cX6_toldTimes 45 = .ok (.sipush 1000, 3) := by decide +kernel
theorem dX6_toldTimes_48 : decode cX6_toldTimes 48 = .ok (.if_icmp .ge 105, 3) := by decide +kernel
theorem dX6_toldTimes_51 : decode cX6_toldTimes 51 = .ok (.aload_n 0, 1) := by decide +kernel
theorem dX6_toldTimes_52 : decode cX6_toldTimes 52 = .ok (.getfield 52, 3) := by decide +kernel
theorem dX6_toldTimes_55 : decode cX6_toldTimes 55 = .ok (.sipush 1000, 3) := by decide +kernel
theorem dX6_toldTimes_58 : decode cX6_toldTimes 58 = .ok (.iload_n 3, 1) := by decide +kernel
theorem dX6_toldTimes_59 : decode cX6_toldTimes 59 = .ok (.imul, 1) := by decide +kernel
theorem dX6_toldTimes_60 : decode cX6_toldTimes 60 = .ok (.iload 4, 2) := by decide +kernel
theorem dX6_toldTimes_62 : decode cX6_toldTimes 62 = .ok (.iadd, 1) := by decide +kernel
theorem dX6_toldTimes_63 : decode cX6_toldTimes 63 = .ok (.baload, 1) := by decide +kernel
theorem dX6_toldTimes_64 : decode cX6_toldTimes 64 = .ok (.ifCond .ne 6, 3) := by decide +kernel
theorem dX6_toldTimes_67 : decode cX6_toldTimes 67 = .ok (.goto 80, 3) := by decide +kernel
theorem dX6_toldTimes_70 : decode cX6_toldTimes 70 = .ok (.iconst 0, 1) := by decide +kernel
theorem dX6_toldTimes_71 : decode cX6_toldTimes 71 = .ok (.istore 5, 2) := by decide +kernel
theorem dX6_toldTimes_73 : decode cX6_toldTimes 73 = .ok (.iload 5, 2) := by decide +kernel
theorem dX6_toldTimes_75 : decode cX6_toldTimes 75 = .ok (.bipush 8, 2) := by decide +kernel
theorem dX6_toldTimes_77 : decode cX6_toldTimes 77 = .ok (.if_icmp .ge 70, 3) := by decide +kernel
theorem dX6_toldTimes_80 : decode cX6_toldTimes 80 = .ok (.aload_n 0, 1) := by decide +kernel
theorem dX6_toldTimes_81 : decode cX6_toldTimes 81 = .ok (.iload 4, 2) := by decide +kernel
theorem dX6_toldTimes_83 : decode cX6_toldTimes 83 = .ok (.iload 5, 2) := by decide +kernel
theorem dX6_toldTimes_85 : decode cX6_toldTimes 85 = .ok (.invokevirtual 272, 3) := by decide +kernel
theorem dX6_toldTimes_88 : decode cX6_toldTimes 88 = .ok (.aload_n 0, 1) := by decide +kernel
theorem dX6_toldTimes_89 : decode cX6_toldTimes 89 = .ok (.getfield 266, 3) := by decide +kernel
theorem dX6_toldTimes_92 : decode cX6_toldTimes 92 = .ok (.ifCond .eq 49, 3) := by decide +kernel
theorem dX6_toldTimes_95 : decode cX6_toldTimes 95 = .ok (.iload_n 3, 1) := by decide +kernel
theorem dX6_toldTimes_96 : decode cX6_toldTimes 96 = .ok (.aload_n 0, 1) := by decide +kernel
theorem dX6_toldTimes_97 : decode cX6_toldTimes 97 = .ok (.getfield 266, 3) := by decide +kernel
theorem dX6_toldTimes_100 : decode cX6_toldTimes 100 = .ok (.iadd, 1) := by decide +kernel
theorem dX6_toldTimes_101 : decode cX6_toldTimes 101 = .ok (.bipush 30, 2) := by decide +kernel
theorem dX6_toldTimes_103 : decode cX6_toldTimes 103 = .ok (.if_icmp .le 6, 3) := by decide +kernel
theorem dX6_toldTimes_106 : decode cX6_toldTimes 106 = .ok (.goto 35, 3) := by decide +kernel
theorem dX6_toldTimes_109 : decode cX6_toldTimes 109 = .ok (.aload_n 0, 1) := by decide +kernel
theorem dX6_toldTimes_110 : decode cX6_toldTimes 110 = .ok (.getfield 52, 3) := by decide +kernel
theorem dX6_toldTimes_113 : decode cX6_toldTimes 113 = .ok (.sipush 1000, 3) := by decide +kernel
theorem dX6_toldTimes_116 : decode cX6_toldTimes 116 = .ok (.iload_n 3, 1) := by decide +kernel
theorem dX6_toldTimes_117 : decode cX6_toldTimes 117 = .ok (.aload_n 0, 1) := by decide +kernel
theorem dX6_toldTimes_118 : decode cX6_toldTimes 118 = .ok (.getfield 266, 3) := by decide +kernel
theorem dX6_toldTimes_121 : decode cX6_toldTimes 121 = .ok (.iadd, 1) := by decide +kernel
theorem dX6_toldTimes_122 : decode cX6_toldTimes 122 = .ok (.imul, 1) := by decide +kernel
theorem dX6_toldTimes_123 : decode cX6_toldTimes 123 = .ok (.aload_n 0, 1) := by decide +kernel
theorem dX6_toldTimes_124 : decode cX6_toldTimes 124 = .ok (.getfield 269, 3) := by decide +kernel
theorem dX6_toldTimes_127 : decode cX6_toldTimes 127 = .ok (.iadd, 1) := by decide +kernel
theorem dX6_toldTimes_128 : decode cX6_toldTimes 128 = .ok (.iconst 1, 1) := by decide +kernel
theorem dX6_toldTimes_129 : decode cX6_toldTimes 129 = .ok (.bastore, 1) := by decide +kernel
theorem dX6_toldTimes_130 : decode cX6_toldTimes 130 = .ok (.lload_n 1, 1) := by decide +kernel
theorem dX6_toldTimes_131 : decode cX6_toldTimes 131 = .ok (.lconst 1, 1) := by decide +kernel
theorem dX6_toldTimes_132 : decode cX6_toldTimes 132 = .ok (.iload_n 3, 1) := by decide +kernel
theorem dX6_toldTimes_133 : decode cX6_toldTimes 133 = .ok (.aload_n 0, 1) := by decide +kernel
theorem dX6_toldTimes_134 : decode cX6_toldTimes 134 = .ok (.getfield 266, 3) := by decide +kernel
theorem dX6_toldTimes_137 : decode cX6_toldTimes 137 = .ok (.iadd, 1) := by decide +kernel
theorem dX6_toldTimes_138 : decode cX6_toldTimes 138 = .ok (.lshl, 1) := by decide +kernel
theorem dX6_toldTimes_139 : decode cX6_toldTimes 139 = .ok (.lor, 1) := by decide +kernel
theorem dX6_toldTimes_140 : decode cX6_toldTimes 140 = .ok (.lstore_n 1, 1) := by decide +kernel
theorem dX6_toldTimes_141 : decode cX6_toldTimes 141 = .ok (.iinc 5 1, 3) := by decide +kernel
theorem dX6_toldTimes_144 : decode cX6_toldTimes 144 = .ok (.goto (-71), 3) := by decide +kernel
theorem dX6_toldTimes_147 : decode cX6_toldTimes 147 = .ok (.iinc 4 1, 3) := by decide +kernel
theorem dX6_toldTimes_150 : decode cX6_toldTimes 150 = .ok (.goto (-107), 3) := by decide +kernel
theorem dX6_toldTimes_153 : decode cX6_toldTimes 153 = .ok (.iinc 3 1, 3) := by decide +kernel
theorem dX6_toldTimes_156 : decode cX6_toldTimes 156 = .ok (.goto (-122), 3) := by decide +kernel
theorem dX6_toldTimes_159 : decode cX6_toldTimes 159 = .ok (.lload_n 1, 1) := by decide +kernel
theorem dX6_toldTimes_160 : decode cX6_toldTimes 160 = .ok (.lreturn, 1) := by decide +kernel

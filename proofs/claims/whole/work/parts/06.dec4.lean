theorem dX9_image_13 : decode cX9_image 13 = .ok (.ifCond .ne 6, 3) := by decide +kernel
theorem dX9_image_16 : decode cX9_image 16 = .ok (.bipush (-4), 2) := by decide +kernel
theorem dX9_image_18 : decode cX9_image 18 = .ok (.ireturn, 1) := by decide +kernel
theorem dX9_image_19 : decode cX9_image 19 = .ok (.aload_n 0, 1) := by decide +kernel
theorem dX9_image_20 : decode cX9_image 20 = .ok (.aload_n 0, 1) := by decide +kernel
theorem dX9_image_21 : decode cX9_image 21 = .ok (.getfield 56, 3) := by decide +kernel
theorem dX9_image_24 : decode cX9_image 24 = .ok (.bipush 17, 2) := by decide +kernel
theorem dX9_image_26 : decode cX9_image 26 = .ok (.iload_n 1, 1) := by decide +kernel
theorem dX9_image_27 : decode cX9_image 27 = .ok (.imul, 1) := by decide +kernel
theorem dX9_image_28 : decode cX9_image 28 = .ok (.invokevirtual 253, 3) := by decide +kernel
theorem dX9_image_31 : decode cX9_image 31 = .ok (.aload_n 0, 1) := by decide +kernel
theorem dX9_image_32 : decode cX9_image 32 = .ok (.getfield 53, 3) := by decide +kernel
theorem dX9_image_35 : decode cX9_image 35 = .ok (.iload_n 1, 1) := by decide +kernel
theorem dX9_image_36 : decode cX9_image 36 = .ok (.iconst 1, 1) := by decide +kernel
theorem dX9_image_37 : decode cX9_image 37 = .ok (.iastore, 1) := by decide +kernel
theorem dX9_image_38 : decode cX9_image 38 = .ok (.aload_n 0, 1) := by decide +kernel
theorem dX9_image_39 : decode cX9_image 39 = .ok (.invokevirtual 267, 3) := by decide +kernel
theorem dX9_image_42 : decode cX9_image 42 = .ok (.ireturn, 1) := by decide +kernel
theorem dX9_needImage_0 : decode cX9_needImage 0 = .ok (.aload_n 0, 1) := by decide +kernel
theorem dX9_needImage_1 : decode cX9_needImage 1 = .ok (.getfield 53, 3) := by decide +kernel
theorem dX9_needImage_4 : decode cX9_needImage 4 = .ok (.iload_n 1, 1) := by decide +kernel
theorem dX9_needImage_5 : decode cX9_needImage 5 = .ok (.iaload, 1) := by decide +kernel
theorem dX9_needImage_6 : decode cX9_needImage 6 = .ok (.ifCond .ne 9, 3) := by decide +kernel
theorem dX9_needImage_9 : decode cX9_needImage 9 = .ok (.aload_n 0, 1) := by decide +kernel
theorem dX9_needImage_10 : decode cX9_needImage 10 = .ok (.iconst 1, 1) := by decide +kernel
theorem dX9_needImage_11 : decode cX9_needImage 11 = .ok (.invokevirtual 87, 3) := by decide +kernel
theorem dX9_needImage_14 : decode cX9_needImage 14 = .ok (.ireturn, 1) := by decide +kernel
theorem dX9_needImage_15 : decode cX9_needImage 15 = .ok (.aload_n 0, 1) := by decide +kernel
theorem dX9_needImage_16 : decode cX9_needImage 16 = .ok (.aload_n 0, 1) := by decide +kernel
theorem dX9_needImage_17 : decode cX9_needImage 17 = .ok (.aload_n 0, 1) := by decide +kernel
theorem dX9_needImage_18 : decode cX9_needImage 18 = .ok (.getfield 56, 3) := by decide +kernel
theorem dX9_needImage_21 : decode cX9_needImage 21 = .ok (.bipush 17, 2) := by decide +kernel
theorem dX9_needImage_23 : decode cX9_needImage 23 = .ok (.iload_n 1, 1) := by decide +kernel
theorem dX9_needImage_24 : decode cX9_needImage 24 = .ok (.imul, 1) := by decide +kernel
theorem dX9_needImage_25 : decode cX9_needImage 25 = .ok (.invokestatic 179, 3) := by decide +kernel
theorem dX9_needImage_28 : decode cX9_needImage 28 = .ok (.aload_n 0, 1) := by decide +kernel
theorem dX9_needImage_29 : decode cX9_needImage 29 = .ok (.getfield 47, 3) := by decide +kernel
theorem dX9_needImage_32 : decode cX9_needImage 32 = .ok (.invokevirtual 183, 3) := by decide +kernel
theorem dX9_needImage_35 : decode cX9_needImage 35 = .ok (.putfield 277, 3) := by decide +kernel
theorem dX9_needImage_38 : decode cX9_needImage 38 = .ok (.aload_n 0, 1) := by decide +kernel
theorem dX9_needImage_39 : decode cX9_needImage 39 = .ok (.invokevirtual 190, 3) := by decide +kernel
theorem dX9_needImage_42 : decode cX9_needImage 42 = .ok (.iconst 0, 1) := by decide +kernel
theorem dX9_needImage_43 : decode cX9_needImage 43 = .ok (.ireturn, 1) := by decide +kernel
theorem dX9_on_0 : decode cX9_on 0 = .ok (.iload_n 1, 1) := by decide +kernel
theorem dX9_on_1 : decode cX9_on 1 = .ok (.invokestatic 274, 3) := by decide +kernel
theorem dX9_on_4 : decode cX9_on 4 = .ok (.ifCond .ne 5, 3) := by decide +kernel
theorem dX9_on_7 : decode cX9_on 7 = .ok (.iconst (-1), 1) := by decide +kernel
theorem dX9_on_8 : decode cX9_on 8 = .ok (.ireturn, 1) := by decide +kernel
theorem dX9_on_9 : decode cX9_on 9 = .ok (.aload_n 0, 1) := by decide +kernel
theorem dX9_on_10 : decode cX9_on 10 = .ok (.getfield 53, 3) := by decide +kernel
theorem dX9_on_13 : decode cX9_on 13 = .ok (.iload_n 1, 1) := by decide +kernel
theorem dX9_on_14 : decode cX9_on 14 = .ok (.iaload, 1) := by decide +kernel
theorem dX9_on_15 : decode cX9_on 15 = .ok (.ifCond .ne 9, 3) := by decide +kernel
theorem dX9_on_18 : decode cX9_on 18 = .ok (.aload_n 0, 1) := by decide +kernel
theorem dX9_on_19 : decode cX9_on 19 = .ok (.iconst 1, 1) := by decide +kernel
theorem dX9_on_20 : decode cX9_on 20 = .ok (.invokevirtual 87, 3) := by decide +kernel
theorem dX9_on_23 : decode cX9_on 23 = .ok (.ireturn, 1) := by decide +kernel
theorem dX9_on_24 : decode cX9_on 24 = .ok (.aload_n 0, 1) := by decide +kernel
theorem dX9_on_25 : decode cX9_on 25 = .ok (.aload_n 0, 1) := by decide +kernel
theorem dX9_on_26 : decode cX9_on 26 = .ok (.getfield 56, 3) := by decide +kernel
theorem dX9_on_29 : decode cX9_on 29 = .ok (.bipush 17, 2) := by decide +kernel
theorem dX9_on_31 : decode cX9_on 31 = .ok (.iload_n 1, 1) := by decide +kernel
theorem dX9_on_32 : decode cX9_on 32 = .ok (.imul, 1) := by decide +kernel
theorem dX9_on_33 : decode cX9_on 33 = .ok (.invokevirtual 271, 3) := by decide +kernel
theorem dX9_on_36 : decode cX9_on 36 = .ok (.aload_n 0, 1) := by decide +kernel
theorem dX9_on_37 : decode cX9_on 37 = .ok (.iconst 0, 1) := by decide +kernel
theorem dX9_on_38 : decode cX9_on 38 = .ok (.putfield 167, 3) := by decide +kernel
theorem dX9_on_41 : decode cX9_on 41 = .ok (.aload_n 0, 1) := by decide +kernel
theorem dX9_on_42 : decode cX9_on 42 = .ok (.invokevirtual 267, 3) := by decide +kernel
theorem dX9_on_45 : decode cX9_on 45 = .ok (.ireturn, 1) := by decide +kernel
theorem dX9_then_0 : decode cX9_then 0 = .ok (.iload_n 1, 1) := by decide +kernel
theorem dX9_then_1 : decode cX9_then 1 = .ok (.invokestatic 274, 3) := by decide +kernel
theorem dX9_then_4 : decode cX9_then 4 = .ok (.ifCond .eq 12, 3) := by decide +kernel
theorem dX9_then_7 : decode cX9_then 7 = .ok (.iload_n 3, 1) := by decide +kernel
theorem dX9_then_8 : decode cX9_then 8 = .ok (.iconst 0, 1) := by decide +kernel
theorem dX9_then_9 : decode cX9_then 9 = .ok (.iconst 4, 1) := by decide +kernel
theorem dX9_then_10 : decode cX9_then 10 = .ok (.invokestatic 79, 3) := by decide +kernel
theorem dX9_then_13 : decode cX9_then 13 = .ok (.ifCond .ne 5, 3) := by decide +kernel
theorem dX9_then_16 : decode cX9_then 16 = .ok (.iconst (-1), 1) := by decide +kernel
theorem dX9_then_17 : decode cX9_then 17 = .ok (.ireturn, 1) := by decide +kernel
theorem dX9_then_18 : decode cX9_then 18 = .ok (.aload_n 0, 1) := by decide +kernel
theorem dX9_then_19 : decode cX9_then 19 = .ok (.iload_n 1, 1) := by decide +kernel
theorem dX9_then_20 : decode cX9_then 20 = .ok (.invokevirtual 280, 3) := by decide +kernel
theorem dX9_then_23 : decode cX9_then 23 = .ok (.istore 4, 2) := by decide +kernel
theorem dX9_then_25 : decode cX9_then 25 = .ok (.iload 4, 2) := by decide +kernel
theorem dX9_then_27 : decode cX9_then 27 = .ok (.ifCond .ge 6, 3) := by decide +kernel
theorem dX9_then_30 : decode cX9_then 30 = .ok (.iload 4, 2) := by decide +kernel
theorem dX9_then_32 : decode cX9_then 32 = .ok (.ireturn, 1) := by decide +kernel
theorem dX9_then_33 : decode cX9_then 33 = .ok (.iload_n 2, 1) := by decide +kernel
theorem dX9_then_34 : decode cX9_then 34 = .ok (.iconst 0, 1) := by decide +kernel
theorem dX9_then_35 : decode cX9_then 35 = .ok (.aload_n 0, 1) := by decide +kernel
theorem dX9_then_36 : decode cX9_then 36 = .ok (.getfield 277, 3) := by decide +kernel
theorem dX9_then_39 : decode cX9_then 39 = .ok (.iconst 1, 1) := by decide +kernel
theorem dX9_then_40 : decode cX9_then 40 = .ok (.isub, 1) := by decide +kernel
theorem dX9_then_41 : decode cX9_then 41 = .ok (.invokestatic 79, 3) := by decide +kernel
theorem dX9_then_44 : decode cX9_then 44 = .ok (.ifCond .eq 30, 3) := by decide +kernel
theorem dX9_then_47 : decode cX9_then 47 = .ok (.aload_n 0, 1) := by decide +kernel
theorem dX9_then_48 : decode cX9_then 48 = .ok (.aload_n 0, 1) := by decide +kernel
theorem dX9_then_49 : decode cX9_then 49 = .ok (.aload_n 0, 1) := by decide +kernel
theorem dX9_then_50 : decode cX9_then 50 = .ok (.getfield 56, 3) := by decide +kernel
theorem dX9_then_53 : decode cX9_then 53 = .ok (.bipush 17, 2) := by decide +kernel
theorem dX9_then_55 : decode cX9_then 55 = .ok (.iload_n 1, 1) := by decide +kernel
theorem dX9_then_56 : decode cX9_then 56 = .ok (.imul, 1) := by decide +kernel
theorem dX9_then_57 : decode cX9_then 57 = .ok (.aload_n 0, 1) := by decide +kernel
theorem dX9_then_58 : decode cX9_then 58 = .ok (.getfield 47, 3) := by decide +kernel
theorem dX9_then_61 : decode cX9_then 61 = .ok (.iload_n 2, 1) := by decide +kernel
theorem dX9_then_62 : decode cX9_then 62 = .ok (.iaload, 1) := by decide +kernel
theorem dX9_then_63 : decode cX9_then 63 = .ok (.iload_n 3, 1) := by decide +kernel
theorem dX9_then_64 : decode cX9_then 64 = .ok (.invokevirtual 249, 3) := by decide +kernel
theorem dX9_then_67 : decode cX9_then 67 = .ok (.iconst 1, 1) := by decide +kernel
theorem dX9_then_68 : decode cX9_then 68 = .ok (.invokevirtual 105, 3) := by decide +kernel
theorem dX9_then_71 : decode cX9_then 71 = .ok (.goto 4, 3) := by decide +kernel
theorem dX9_then_74 : decode cX9_then 74 = .ok (.iconst (-1), 1) := by decide +kernel
theorem dX9_then_75 : decode cX9_then 75 = .ok (.ireturn, 1) := by decide +kernel
theorem dX9_isSame_0 : decode cX9_isSame 0 = .ok (.aload_n 0, 1) := by decide +kernel
theorem dX9_isSame_1 : decode cX9_isSame 1 = .ok (.aload_n 0, 1) := by decide +kernel
theorem dX9_isSame_2 : decode cX9_isSame 2 = .ok (.getfield 38, 3) := by decide +kernel
theorem dX9_isSame_5 : decode cX9_isSame 5 = .ok (.iload_n 1, 1) := by decide +kernel
theorem dX9_isSame_6 : decode cX9_isSame 6 = .ok (.iaload, 1) := by decide +kernel
theorem dX9_isSame_7 : decode cX9_isSame 7 = .ok (.aload_n 0, 1) := by decide +kernel
theorem dX9_isSame_8 : decode cX9_isSame 8 = .ok (.getfield 56, 3) := by decide +kernel
theorem dX9_isSame_11 : decode cX9_isSame 11 = .ok (.bipush 17, 2) := by decide +kernel
theorem dX9_isSame_13 : decode cX9_isSame 13 = .ok (.iload_n 2, 1) := by decide +kernel
theorem dX9_isSame_14 : decode cX9_isSame 14 = .ok (.imul, 1) := by decide +kernel
theorem dX9_isSame_15 : decode cX9_isSame 15 = .ok (.aload_n 0, 1) := by decide +kernel
theorem dX9_isSame_16 : decode cX9_isSame 16 = .ok (.getfield 47, 3) := by decide +kernel
theorem dX9_isSame_19 : decode cX9_isSame 19 = .ok (.iload_n 3, 1) := by decide +kernel
theorem dX9_isSame_20 : decode cX9_isSame 20 = .ok (.iaload, 1) := by decide +kernel
theorem dX9_isSame_21 : decode cX9_isSame 21 = .ok (.aload_n 0, 1) := by decide +kernel
theorem dX9_isSame_22 : decode cX9_isSame 22 = .ok (.getfield 44, 3) := by decide +kernel
theorem dX9_isSame_25 : decode cX9_isSame 25 = .ok (.iload 4, 2) := by decide +kernel
theorem dX9_isSame_27 : decode cX9_isSame 27 = .ok (.iaload, 1) := by decide +kernel
theorem dX9_isSame_28 : decode cX9_isSame 28 = .ok (.invokevirtual 233, 3) := by decide +kernel
theorem dX9_isSame_31 : decode cX9_isSame 31 = .ok (.ireturn, 1) := by decide +kernel
theorem dX9_same_0 : decode cX9_same 0 = .ok (.aload_n 0, 1) := by decide +kernel
theorem dX9_same_1 : decode cX9_same 1 = .ok (.iload_n 1, 1) := by decide +kernel
theorem dX9_same_2 : decode cX9_same 2 = .ok (.invokevirtual 218, 3) := by decide +kernel
theorem dX9_same_5 : decode cX9_same 5 = .ok (.ifCond .eq 10, 3) := by decide +kernel
theorem dX9_same_8 : decode cX9_same 8 = .ok (.iload_n 2, 1) := by decide +kernel
theorem dX9_same_9 : decode cX9_same 9 = .ok (.invokestatic 274, 3) := by decide +kernel
theorem dX9_same_12 : decode cX9_same 12 = .ok (.ifCond .ne 7, 3) := by decide +kernel
theorem dX9_same_15 : decode cX9_same 15 = .ok (.iconst (-1), 1) := by decide +kernel
theorem dX9_same_16 : decode cX9_same 16 = .ok (.goto 8, 3) := by decide +kernel
theorem dX9_same_19 : decode cX9_same 19 = .ok (.aload_n 0, 1) := by decide +kernel
theorem dX9_same_20 : decode cX9_same 20 = .ok (.iload_n 2, 1) := by decide +kernel
theorem dX9_same_21 : decode cX9_same 21 = .ok (.invokevirtual 280, 3) := by decide +kernel
theorem dX9_same_24 : decode cX9_same 24 = .ok (.istore 5, 2) := by decide +kernel
theorem dX9_same_26 : decode cX9_same 26 = .ok (.iload 5, 2) := by decide +kernel
theorem dX9_same_28 : decode cX9_same 28 = .ok (.ifCond .ge 6, 3) := by decide +kernel
theorem dX9_same_31 : decode cX9_same 31 = .ok (.iload 5, 2) := by decide +kernel
theorem dX9_same_33 : decode cX9_same 33 = .ok (.ireturn, 1) := by decide +kernel
theorem dX9_same_34 : decode cX9_same 34 = .ok (.iload_n 3, 1) := by decide +kernel
theorem dX9_same_35 : decode cX9_same 35 = .ok (.iconst 0, 1) := by decide +kernel
theorem dX9_same_36 : decode cX9_same 36 = .ok (.aload_n 0, 1) := by decide +kernel
theorem dX9_same_37 : decode cX9_same 37 = .ok (.getfield 277, 3) := by decide +kernel
theorem dX9_same_40 : decode cX9_same 40 = .ok (.iconst 1, 1) := by decide +kernel
theorem dX9_same_41 : decode cX9_same 41 = .ok (.isub, 1) := by decide +kernel
theorem dX9_same_42 : decode cX9_same 42 = .ok (.invokestatic 79, 3) := by decide +kernel
theorem dX9_same_45 : decode cX9_same 45 = .ok (.ifCond .eq 18, 3) := by decide +kernel
theorem dX9_same_48 : decode cX9_same 48 = .ok (.iload 4, 2) := by decide +kernel
theorem dX9_same_50 : decode cX9_same 50 = .ok (.iconst 0, 1) := by decide +kernel
theorem dX9_same_51 : decode cX9_same 51 = .ok (.aload_n 0, 1) := by decide +kernel
theorem dX9_same_52 : decode cX9_same 52 = .ok (.getfield 187, 3) := by decide +kernel
theorem dX9_same_55 : decode cX9_same 55 = .ok (.iconst 1, 1) := by decide +kernel
theorem dX9_same_56 : decode cX9_same 56 = .ok (.isub, 1) := by decide +kernel
theorem dX9_same_57 : decode cX9_same 57 = .ok (.invokestatic 79, 3) := by decide +kernel
theorem dX9_same_60 : decode cX9_same 60 = .ok (.ifCond .ne 5, 3) := by decide +kernel
theorem dX9_same_63 : decode cX9_same 63 = .ok (.iconst (-1), 1) := by decide +kernel
theorem dX9_same_64 : decode cX9_same 64 = .ok (.ireturn, 1) := by decide +kernel
theorem dX9_same_65 : decode cX9_same 65 = .ok (.aload_n 0, 1) := by decide +kernel
theorem dX9_same_66 : decode cX9_same 66 = .ok (.iload_n 1, 1) := by decide +kernel
theorem dX9_same_67 : decode cX9_same 67 = .ok (.iload_n 2, 1) := by decide +kernel
theorem dX9_same_68 : decode cX9_same 68 = .ok (.iload_n 3, 1) := by decide +kernel
theorem dX9_same_69 : decode cX9_same 69 = .ok (.iload 4, 2) := by decide +kernel
theorem dX9_same_71 : decode cX9_same 71 = .ok (.invokevirtual 283, 3) := by decide +kernel
theorem dX9_same_74 : decode cX9_same 74 = .ok (.ifCond .eq 7, 3) := by decide +kernel
theorem dX9_same_77 : decode cX9_same 77 = .ok (.iconst 1, 1) := by decide +kernel
theorem dX9_same_78 : decode cX9_same 78 = .ok (.goto 4, 3) := by decide +kernel
theorem dX9_same_81 : decode cX9_same 81 = .ok (.iconst 0, 1) := by decide +kernel
theorem dX9_same_82 : decode cX9_same 82 = .ok (.ireturn, 1) := by decide +kernel
theorem dX9_sameSet_0 : decode cX9_sameSet 0 = .ok (.iconst 0, 1) := by decide +kernel
theorem dX9_sameSet_1 : decode cX9_sameSet 1 = .ok (.istore 4, 2) := by decide +kernel
theorem dX9_sameSet_3 : decode cX9_sameSet 3 = .ok (.iconst 0, 1) := by decide +kernel
theorem dX9_sameSet_4 : decode cX9_sameSet 4 = .ok (.istore 5, 2) := by decide +kernel
theorem dX9_sameSet_6 : decode cX9_sameSet 6 = .ok (.iload 5, 2) := by decide +kernel
theorem dX9_sameSet_8 : decode cX9_sameSet 8 = .ok (.aload_n 0, 1) := by decide +kernel
theorem dX9_sameSet_9 : decode cX9_sameSet 9 = .ok (.getfield 187, 3) := by decide +kernel
theorem dX9_sameSet_12 : decode cX9_sameSet 12 = .ok (.if_icmp .ge 34, 3) := by decide +kernel
theorem dX9_sameSet_15 : decode cX9_sameSet 15 = .ok (.iload 4, 2) := by decide +kernel
theorem dX9_sameSet_17 : decode cX9_sameSet 17 = .ok (.aload_n 0, 1) := by decide +kernel
theorem dX9_sameSet_18 : decode cX9_sameSet 18 = .ok (.iload_n 1, 1) := by decide +kernel
theorem dX9_sameSet_19 : decode cX9_sameSet 19 = .ok (.iload_n 2, 1) := by decide +kernel
theorem dX9_sameSet_20 : decode cX9_sameSet 20 = .ok (.iload_n 3, 1) := by decide +kernel
theorem dX9_sameSet_21 : decode cX9_sameSet 21 = .ok (.iload 5, 2) := by decide +kernel
theorem dX9_sameSet_23 : decode cX9_sameSet 23 = .ok (.invokevirtual 283, 3) := by decide +kernel
theorem dX9_sameSet_26 : decode cX9_sameSet 26 = .ok (.ifCond .eq 10, 3) := by decide +kernel
theorem dX9_sameSet_29 : decode cX9_sameSet 29 = .ok (.iconst 1, 1) := by decide +kernel
theorem dX9_sameSet_30 : decode cX9_sameSet 30 = .ok (.iload 5, 2) := by decide +kernel
theorem dX9_sameSet_32 : decode cX9_sameSet 32 = .ok (.ishl, 1) := by decide +kernel
theorem dX9_sameSet_33 : decode cX9_sameSet 33 = .ok (.goto 4, 3) := by decide +kernel
theorem dX9_sameSet_36 : decode cX9_sameSet 36 = .ok (.iconst 0, 1) := by decide +kernel
theorem dX9_sameSet_37 : decode cX9_sameSet 37 = .ok (.ior, 1) := by decide +kernel
theorem dX9_sameSet_38 : decode cX9_sameSet 38 = .ok (.istore 4, 2) := by decide +kernel
theorem dX9_sameSet_40 : decode cX9_sameSet 40 = .ok (.iinc 5 1, 3) := by decide +kernel
theorem dX9_sameSet_43 : decode cX9_sameSet 43 = .ok (.goto (-37), 3) := by decide +kernel
theorem dX9_sameSet_46 : decode cX9_sameSet 46 = .ok (.iload 4, 2) := by decide +kernel
theorem dX9_sameSet_48 : decode cX9_sameSet 48 = .ok (.ireturn, 1) := by decide +kernel
theorem dX9_which_0 : decode cX9_which 0 = .ok (.aload_n 0, 1) := by decide +kernel
theorem dX9_which_1 : decode cX9_which 1 = .ok (.iload_n 1, 1) := by decide +kernel
theorem dX9_which_2 : decode cX9_which 2 = .ok (.invokevirtual 218, 3) := by decide +kernel
theorem dX9_which_5 : decode cX9_which 5 = .ok (.ifCond .eq 10, 3) := by decide +kernel
theorem dX9_which_8 : decode cX9_which 8 = .ok (.iload_n 2, 1) := by decide +kernel
theorem dX9_which_9 : decode cX9_which 9 = .ok (.invokestatic 274, 3) := by decide +kernel
theorem dX9_which_12 : decode cX9_which 12 = .ok (.ifCond .ne 7, 3) := by decide +kernel
theorem dX9_which_15 : decode cX9_which 15 = .ok (.iconst (-1), 1) := by decide +kernel
theorem dX9_which_16 : decode cX9_which 16 = .ok (.goto 8, 3) := by decide +kernel
theorem dX9_which_19 : decode cX9_which 19 = .ok (.aload_n 0, 1) := by decide +kernel
theorem dX9_which_20 : decode cX9_which 20 = .ok (.iload_n 2, 1) := by decide +kernel
theorem dX9_which_21 : decode cX9_which 21 = .ok (.invokevirtual 280, 3) := by decide +kernel
theorem dX9_which_24 : decode cX9_which 24 = .ok (.istore 4, 2) := by decide +kernel
theorem dX9_which_26 : decode cX9_which 26 = .ok (.iload 4, 2) := by decide +kernel
theorem dX9_which_28 : decode cX9_which 28 = .ok (.ifCond .ge 6, 3) := by decide +kernel
theorem dX9_which_31 : decode cX9_which 31 = .ok (.iload 4, 2) := by decide +kernel
theorem dX9_which_33 : decode cX9_which 33 = .ok (.ireturn, 1) := by decide +kernel
theorem dX9_which_34 : decode cX9_which 34 = .ok (.iload_n 3, 1) := by decide +kernel
theorem dX9_which_35 : decode cX9_which 35 = .ok (.iconst 0, 1) := by decide +kernel
theorem dX9_which_36 : decode cX9_which 36 = .ok (.aload_n 0, 1) := by decide +kernel
theorem dX9_which_37 : decode cX9_which 37 = .ok (.getfield 277, 3) := by decide +kernel
theorem dX9_which_40 : decode cX9_which 40 = .ok (.iconst 1, 1) := by decide +kernel
theorem dX9_which_41 : decode cX9_which 41 = .ok (.isub, 1) := by decide +kernel
theorem dX9_which_42 : decode cX9_which 42 = .ok (.invokestatic 79, 3) := by decide +kernel
theorem dX9_which_45 : decode cX9_which 45 = .ok (.ifCond .eq 13, 3) := by decide +kernel
theorem dX9_which_48 : decode cX9_which 48 = .ok (.aload_n 0, 1) := by decide +kernel
theorem dX9_which_49 : decode cX9_which 49 = .ok (.iload_n 1, 1) := by decide +kernel
theorem dX9_which_50 : decode cX9_which 50 = .ok (.iload_n 2, 1) := by decide +kernel
theorem dX9_which_51 : decode cX9_which 51 = .ok (.iload_n 3, 1) := by decide +kernel
theorem dX9_which_52 : decode cX9_which 52 = .ok (.invokevirtual 287, 3) := by decide +kernel
theorem dX9_which_55 : decode cX9_which 55 = .ok (.goto 4, 3) := by decide +kernel
theorem dX9_which_58 : decode cX9_which 58 = .ok (.iconst (-1), 1) := by decide +kernel
theorem dX9_which_59 : decode cX9_which 59 = .ok (.ireturn, 1) := by decide +kernel
theorem dX9_doubt_0 : decode cX9_doubt 0 = .ok (.aload_n 0, 1) := by decide +kernel
theorem dX9_doubt_1 : decode cX9_doubt 1 = .ok (.iload_n 1, 1) := by decide +kernel
theorem dX9_doubt_2 : decode cX9_doubt 2 = .ok (.invokevirtual 218, 3) := by decide +kernel
theorem dX9_doubt_5 : decode cX9_doubt 5 = .ok (.ifCond .eq 10, 3) := by decide +kernel
theorem dX9_doubt_8 : decode cX9_doubt 8 = .ok (.iload_n 2, 1) := by decide +kernel
theorem dX9_doubt_9 : decode cX9_doubt 9 = .ok (.invokestatic 274, 3) := by decide +kernel
theorem dX9_doubt_12 : decode cX9_doubt 12 = .ok (.ifCond .ne 7, 3) := by decide +kernel
theorem dX9_doubt_15 : decode cX9_doubt 15 = .ok (.iconst (-1), 1) := by decide +kernel
theorem dX9_doubt_16 : decode cX9_doubt 16 = .ok (.goto 8, 3) := by decide +kernel
theorem dX9_doubt_19 : decode cX9_doubt 19 = .ok (.aload_n 0, 1) := by decide +kernel
theorem dX9_doubt_20 : decode cX9_doubt 20 = .ok (.iload_n 2, 1) := by decide +kernel
theorem dX9_doubt_21 : decode cX9_doubt 21 = .ok (.invokevirtual 280, 3) := by decide +kernel
theorem dX9_doubt_24 : decode cX9_doubt 24 = .ok (.istore_n 3, 1) := by decide +kernel
theorem dX9_doubt_25 : decode cX9_doubt 25 = .ok (.iload_n 3, 1) := by decide +kernel
theorem dX9_doubt_26 : decode cX9_doubt 26 = .ok (.ifCond .ge 5, 3) := by decide +kernel
theorem dX9_doubt_29 : decode cX9_doubt 29 = .ok (.iload_n 3, 1) := by decide +kernel
theorem dX9_doubt_30 : decode cX9_doubt 30 = .ok (.ireturn, 1) := by decide +kernel
theorem dX9_doubt_31 : decode cX9_doubt 31 = .ok (.iconst 0, 1) := by decide +kernel
theorem dX9_doubt_32 : decode cX9_doubt 32 = .ok (.istore 4, 2) := by decide +kernel
theorem dX9_doubt_34 : decode cX9_doubt 34 = .ok (.iconst 0, 1) := by decide +kernel
theorem dX9_doubt_35 : decode cX9_doubt 35 = .ok (.istore 5, 2) := by decide +kernel
theorem dX9_doubt_37 : decode cX9_doubt 37 = .ok (.iconst 0, 1) := by decide +kernel
theorem dX9_doubt_38 : decode cX9_doubt 38 = .ok (.istore 6, 2) := by decide +kernel
theorem dX9_doubt_40 : decode cX9_doubt 40 = .ok (.iload 6, 2) := by decide +kernel
theorem dX9_doubt_42 : decode cX9_doubt 42 = .ok (.aload_n 0, 1) := by decide +kernel
theorem dX9_doubt_43 : decode cX9_doubt 43 = .ok (.getfield 277, 3) := by decide +kernel
theorem dX9_doubt_46 : decode cX9_doubt 46 = .ok (.if_icmp .ge 53, 3) := by decide +kernel
theorem dX9_doubt_49 : decode cX9_doubt 49 = .ok (.aload_n 0, 1) := by decide +kernel
theorem dX9_doubt_50 : decode cX9_doubt 50 = .ok (.iload_n 1, 1) := by decide +kernel
theorem dX9_doubt_51 : decode cX9_doubt 51 = .ok (.iload_n 2, 1) := by decide +kernel
theorem dX9_doubt_52 : decode cX9_doubt 52 = .ok (.iload 6, 2) := by decide +kernel
theorem dX9_doubt_54 : decode cX9_doubt 54 = .ok (.invokevirtual 287, 3) := by decide +kernel
theorem dX9_doubt_57 : decode cX9_doubt 57 = .ok (.invokestatic 199, 3) := by decide +kernel
theorem dX9_doubt_60 : decode cX9_doubt 60 = .ok (.istore 7, 2) := by decide +kernel
theorem dX9_doubt_62 : decode cX9_doubt 62 = .ok (.iload 4, 2) := by decide +kernel
theorem dX9_doubt_64 : decode cX9_doubt 64 = .ok (.iload 7, 2) := by decide +kernel
theorem dX9_doubt_66 : decode cX9_doubt 66 = .ok (.iconst 1, 1) := by decide +kernel
theorem dX9_doubt_67 : decode cX9_doubt 67 = .ok (.if_icmp .le 7, 3) := by decide +kernel
theorem dX9_doubt_70 : decode cX9_doubt 70 = .ok (.iconst 1, 1) := by decide +kernel
theorem dX9_doubt_71 : decode cX9_doubt 71 = .ok (.goto 4, 3) := by decide +kernel
theorem dX9_doubt_74 : decode cX9_doubt 74 = .ok (.iconst 0, 1) := by decide +kernel
theorem dX9_doubt_75 : decode cX9_doubt 75 = .ok (.iadd, 1) := by decide +kernel
theorem dX9_doubt_76 : decode cX9_doubt 76 = .ok (.istore 4, 2) := by decide +kernel
theorem dX9_doubt_78 : decode cX9_doubt 78 = .ok (.iload 5, 2) := by decide +kernel
theorem dX9_doubt_80 : decode cX9_doubt 80 = .ok (.iload 7, 2) := by decide +kernel
theorem dX9_doubt_82 : decode cX9_doubt 82 = .ok (.ifCond .ne 7, 3) := by decide +kernel
theorem dX9_doubt_85 : decode cX9_doubt 85 = .ok (.iconst 1, 1) := by decide +kernel
theorem dX9_doubt_86 : decode cX9_doubt 86 = .ok (.goto 4, 3) := by decide +kernel
theorem dX9_doubt_89 : decode cX9_doubt 89 = .ok (.iconst 0, 1) := by decide +kernel
theorem dX9_doubt_90 : decode cX9_doubt 90 = .ok (.iadd, 1) := by decide +kernel
theorem dX9_doubt_91 : decode cX9_doubt 91 = .ok (.istore 5, 2) := by decide +kernel
theorem dX9_doubt_93 : decode cX9_doubt 93 = .ok (.iinc 6 1, 3) := by decide +kernel
theorem dX9_doubt_96 : decode cX9_doubt 96 = .ok (.goto (-56), 3) := by decide +kernel
theorem dX9_doubt_99 : decode cX9_doubt 99 = .ok (.aload_n 0, 1) := by decide +kernel
theorem dX9_doubt_100 : decode cX9_doubt 100 = .ok (.iload 5, 2) := by decide +kernel
theorem dX9_doubt_102 : decode cX9_doubt 102 = .ok (.iload 4, 2) := by decide +kernel
theorem dX9_doubt_104 : decode cX9_doubt 104 = .ok (.invokevirtual 105, 3) := by decide +kernel
theorem dX9_doubt_107 : decode cX9_doubt 107 = .ok (.ireturn, 1) := by decide +kernel
theorem dX9_isFair_0 : decode cX9_isFair 0 = .ok (.iconst 1, 1) := by decide +kernel
theorem dX9_isFair_1 : decode cX9_isFair 1 = .ok (.istore_n 3, 1) := by decide +kernel
theorem dX9_isFair_2 : decode cX9_isFair 2 = .ok (.iconst 0, 1) := by decide +kernel
theorem dX9_isFair_3 : decode cX9_isFair 3 = .ok (.istore 4, 2) := by decide +kernel
theorem dX9_isFair_5 : decode cX9_isFair 5 = .ok (.iconst 0, 1) := by decide +kernel
theorem dX9_isFair_6 : decode cX9_isFair 6 = .ok (.istore 5, 2) := by decide +kernel
theorem dX9_isFair_8 : decode cX9_isFair 8 = .ok (.iload 5, 2) := by decide +kernel
theorem dX9_isFair_10 : decode cX9_isFair 10 = .ok (.aload_n 0, 1) := by decide +kernel
theorem dX9_isFair_11 : decode cX9_isFair 11 = .ok (.getfield 277, 3) := by decide +kernel
theorem dX9_isFair_14 : decode cX9_isFair 14 = .ok (.if_icmp .ge 53, 3) := by decide +kernel
theorem dX9_isFair_17 : decode cX9_isFair 17 = .ok (.aload_n 0, 1) := by decide +kernel
theorem dX9_isFair_18 : decode cX9_isFair 18 = .ok (.iload_n 1, 1) := by decide +kernel
theorem dX9_isFair_19 : decode cX9_isFair 19 = .ok (.iload_n 2, 1) := by decide +kernel
theorem dX9_isFair_20 : decode cX9_isFair 20 = .ok (.iload 5, 2) := by decide +kernel
theorem dX9_isFair_22 : decode cX9_isFair 22 = .ok (.invokevirtual 287, 3) := by decide +kernel
theorem dX9_isFair_25 : decode cX9_isFair 25 = .ok (.istore 6, 2) := by decide +kernel
theorem dX9_isFair_27 : decode cX9_isFair 27 = .ok (.iload_n 3, 1) := by decide +kernel
theorem dX9_isFair_28 : decode cX9_isFair 28 = .ok (.ifCond .eq 24, 3) := by decide +kernel
theorem dX9_isFair_31 : decode cX9_isFair 31 = .ok (.iload 6, 2) := by decide +kernel
theorem dX9_isFair_33 : decode cX9_isFair 33 = .ok (.invokestatic 199, 3) := by decide +kernel
theorem dX9_isFair_36 : decode cX9_isFair 36 = .ok (.iconst 1, 1) := by decide +kernel
theorem dX9_isFair_37 : decode cX9_isFair 37 = .ok (.if_icmp .ne 15, 3) := by decide +kernel
theorem dX9_isFair_40 : decode cX9_isFair 40 = .ok (.iload 6, 2) := by decide +kernel
theorem dX9_isFair_42 : decode cX9_isFair 42 = .ok (.iload 4, 2) := by decide +kernel
theorem dX9_isFair_44 : decode cX9_isFair 44 = .ok (.iand, 1) := by decide +kernel
theorem dX9_isFair_45 : decode cX9_isFair 45 = .ok (.ifCond .ne 7, 3) := by decide +kernel
theorem dX9_isFair_48 : decode cX9_isFair 48 = .ok (.iconst 1, 1) := by decide +kernel
theorem dX9_isFair_49 : decode cX9_isFair 49 = .ok (.goto 4, 3) := by decide +kernel
theorem dX9_isFair_52 : decode cX9_isFair 52 = .ok (.iconst 0, 1) := by decide +kernel
theorem dX9_isFair_53 : decode cX9_isFair 53 = .ok (.istore_n 3, 1) := by decide +kernel
theorem dX9_isFair_54 : decode cX9_isFair 54 = .ok (.iload 4, 2) := by decide +kernel
theorem dX9_isFair_56 : decode cX9_isFair 56 = .ok (.iload 6, 2) := by decide +kernel
theorem dX9_isFair_58 : decode cX9_isFair 58 = .ok (.ior, 1) := by decide +kernel
theorem dX9_isFair_59 : decode cX9_isFair 59 = .ok (.istore 4, 2) := by decide +kernel
theorem dX9_isFair_61 : decode cX9_isFair 61 = .ok (.iinc 5 1, 3) := by decide +kernel
theorem dX9_isFair_64 : decode cX9_isFair 64 = .ok (.goto (-56), 3) := by decide +kernel
theorem dX9_isFair_67 : decode cX9_isFair 67 = .ok (.iload_n 3, 1) := by decide +kernel
theorem dX9_isFair_68 : decode cX9_isFair 68 = .ok (.ifCond .eq 20, 3) := by decide +kernel
theorem dX9_isFair_71 : decode cX9_isFair 71 = .ok (.iload 4, 2) := by decide +kernel
theorem dX9_isFair_73 : decode cX9_isFair 73 = .ok (.iconst 1, 1) := by decide +kernel
theorem dX9_isFair_74 : decode cX9_isFair 74 = .ok (.aload_n 0, 1) := by decide +kernel
theorem dX9_isFair_75 : decode cX9_isFair 75 = .ok (.getfield 187, 3) := by decide +kernel
theorem dX9_isFair_78 : decode cX9_isFair 78 = .ok (.ishl, 1) := by decide +kernel
theorem dX9_isFair_79 : decode cX9_isFair 79 = .ok (.iconst 1, 1) := by decide +kernel
theorem dX9_isFair_80 : decode cX9_isFair 80 = .ok (.isub, 1) := by decide +kernel
theorem dX9_isFair_81 : decode cX9_isFair 81 = .ok (.if_icmp .ne 7, 3) := by decide +kernel
theorem dX9_isFair_84 : decode cX9_isFair 84 = .ok (.iconst 1, 1) := by decide +kernel
theorem dX9_isFair_85 : decode cX9_isFair 85 = .ok (.goto 4, 3) := by decide +kernel
theorem dX9_isFair_88 : decode cX9_isFair 88 = .ok (.iconst 0, 1) := by decide +kernel
theorem dX9_isFair_89 : decode cX9_isFair 89 = .ok (.ireturn, 1) := by decide +kernel
theorem dX9_fair_0 : decode cX9_fair 0 = .ok (.iload_n 1, 1) := by decide +kernel
theorem dX9_fair_1 : decode cX9_fair 1 = .ok (.invokestatic 274, 3) := by decide +kernel
theorem dX9_fair_4 : decode cX9_fair 4 = .ok (.ifCond .ne 7, 3) := by decide +kernel
theorem dX9_fair_7 : decode cX9_fair 7 = .ok (.iconst (-1), 1) := by decide +kernel
theorem dX9_fair_8 : decode cX9_fair 8 = .ok (.goto 8, 3) := by decide +kernel
theorem dX9_fair_11 : decode cX9_fair 11 = .ok (.aload_n 0, 1) := by decide +kernel
theorem dX9_fair_12 : decode cX9_fair 12 = .ok (.iload_n 1, 1) := by decide +kernel
theorem dX9_fair_13 : decode cX9_fair 13 = .ok (.invokevirtual 280, 3) := by decide +kernel
theorem dX9_fair_16 : decode cX9_fair 16 = .ok (.istore_n 2, 1) := by decide +kernel
theorem dX9_fair_17 : decode cX9_fair 17 = .ok (.iload_n 2, 1) := by decide +kernel
theorem dX9_fair_18 : decode cX9_fair 18 = .ok (.ifCond .ge 5, 3) := by decide +kernel
theorem dX9_fair_21 : decode cX9_fair 21 = .ok (.iload_n 2, 1) := by decide +kernel
theorem dX9_fair_22 : decode cX9_fair 22 = .ok (.ireturn, 1) := by decide +kernel
theorem dX9_fair_23 : decode cX9_fair 23 = .ok (.iconst 0, 1) := by decide +kernel
theorem dX9_fair_24 : decode cX9_fair 24 = .ok (.istore_n 3, 1) := by decide +kernel
theorem dX9_fair_25 : decode cX9_fair 25 = .ok (.iconst 0, 1) := by decide +kernel
theorem dX9_fair_26 : decode cX9_fair 26 = .ok (.istore 4, 2) := by decide +kernel
theorem dX9_fair_28 : decode cX9_fair 28 = .ok (.iload 4, 2) := by decide +kernel
theorem dX9_fair_30 : decode cX9_fair 30 = .ok (.aload_n 0, 1) := by decide +kernel
theorem dX9_fair_31 : decode cX9_fair 31 = .ok (.getfield 161, 3) := by decide +kernel
theorem dX9_fair_34 : decode cX9_fair 34 = .ok (.if_icmp .ge 30, 3) := by decide +kernel
theorem dX9_fair_37 : decode cX9_fair 37 = .ok (.iload_n 3, 1) := by decide +kernel
theorem dX9_fair_38 : decode cX9_fair 38 = .ok (.aload_n 0, 1) := by decide +kernel
theorem dX9_fair_39 : decode cX9_fair 39 = .ok (.iload 4, 2) := by decide +kernel
theorem dX9_fair_41 : decode cX9_fair 41 = .ok (.iload_n 1, 1) := by decide +kernel
theorem dX9_fair_42 : decode cX9_fair 42 = .ok (.invokevirtual 291, 3) := by decide +kernel
theorem dX9_fair_45 : decode cX9_fair 45 = .ok (.ifCond .eq 10, 3) := by decide +kernel
theorem dX9_fair_48 : decode cX9_fair 48 = .ok (.iconst 1, 1) := by decide +kernel
theorem dX9_fair_49 : decode cX9_fair 49 = .ok (.iload 4, 2) := by decide +kernel
theorem dX9_fair_51 : decode cX9_fair 51 = .ok (.ishl, 1) := by decide +kernel
theorem dX9_fair_52 : decode cX9_fair 52 = .ok (.goto 4, 3) := by decide +kernel
theorem dX9_fair_55 : decode cX9_fair 55 = .ok (.iconst 0, 1) := by decide +kernel
theorem dX9_fair_56 : decode cX9_fair 56 = .ok (.ior, 1) := by decide +kernel
theorem dX9_fair_57 : decode cX9_fair 57 = .ok (.istore_n 3, 1) := by decide +kernel
theorem dX9_fair_58 : decode cX9_fair 58 = .ok (.iinc 4 1, 3) := by decide +kernel
theorem dX9_fair_61 : decode cX9_fair 61 = .ok (.goto (-33), 3) := by decide +kernel
theorem dX9_fair_64 : decode cX9_fair 64 = .ok (.iload_n 3, 1) := by decide +kernel
theorem dX9_fair_65 : decode cX9_fair 65 = .ok (.ireturn, 1) := by decide +kernel
theorem dX9_shovels_0 : decode cX9_shovels 0 = .ok (.iload_n 1, 1) := by decide +kernel
theorem dX9_shovels_1 : decode cX9_shovels 1 = .ok (.invokestatic 274, 3) := by decide +kernel
theorem dX9_shovels_4 : decode cX9_shovels 4 = .ok (.ifCond .ne 7, 3) := by decide +kernel
theorem dX9_shovels_7 : decode cX9_shovels 7 = .ok (.iconst (-1), 1) := by decide +kernel
theorem dX9_shovels_8 : decode cX9_shovels 8 = .ok (.goto 8, 3) := by decide +kernel
theorem dX9_shovels_11 : decode cX9_shovels 11 = .ok (.aload_n 0, 1) := by decide +kernel
theorem dX9_shovels_12 : decode cX9_shovels 12 = .ok (.iload_n 1, 1) := by decide +kernel
theorem dX9_shovels_13 : decode cX9_shovels 13 = .ok (.invokevirtual 280, 3) := by decide +kernel
theorem dX9_shovels_16 : decode cX9_shovels 16 = .ok (.istore_n 2, 1) := by decide +kernel
theorem dX9_shovels_17 : decode cX9_shovels 17 = .ok (.iload_n 2, 1) := by decide +kernel
theorem dX9_shovels_18 : decode cX9_shovels 18 = .ok (.ifCond .ge 5, 3) := by decide +kernel
theorem dX9_shovels_21 : decode cX9_shovels 21 = .ok (.iload_n 2, 1) := by decide +kernel
theorem dX9_shovels_22 : decode cX9_shovels 22 = .ok (.ireturn, 1) := by decide +kernel
theorem dX9_shovels_23 : decode cX9_shovels 23 = .ok (.iconst 0, 1) := by decide +kernel
theorem dX9_shovels_24 : decode cX9_shovels 24 = .ok (.istore_n 3, 1) := by decide +kernel
theorem dX9_shovels_25 : decode cX9_shovels 25 = .ok (.iconst 0, 1) := by decide +kernel
theorem dX9_shovels_26 : decode cX9_shovels 26 = .ok (.istore 4, 2) := by decide +kernel
theorem dX9_shovels_28 : decode cX9_shovels 28 = .ok (.iconst 0, 1) := by decide +kernel
theorem dX9_shovels_29 : decode cX9_shovels 29 = .ok (.istore 5, 2) := by decide +kernel
theorem dX9_shovels_31 : decode cX9_shovels 31 = .ok (.iload 5, 2) := by decide +kernel
theorem dX9_shovels_33 : decode cX9_shovels 33 = .ok (.aload_n 0, 1) := by decide +kernel
theorem dX9_shovels_34 : decode cX9_shovels 34 = .ok (.getfield 155, 3) := by decide +kernel
theorem dX9_shovels_37 : decode cX9_shovels 37 = .ok (.if_icmp .ge 54, 3) := by decide +kernel
theorem dX9_shovels_40 : decode cX9_shovels 40 = .ok (.aload_n 0, 1) := by decide +kernel
theorem dX9_shovels_41 : decode cX9_shovels 41 = .ok (.getfield 32, 3) := by decide +kernel
theorem dX9_shovels_44 : decode cX9_shovels 44 = .ok (.iload 5, 2) := by decide +kernel
theorem dX9_shovels_46 : decode cX9_shovels 46 = .ok (.iaload, 1) := by decide +kernel
theorem dX9_shovels_47 : decode cX9_shovels 47 = .ok (.aload_n 0, 1) := by decide +kernel
theorem dX9_shovels_48 : decode cX9_shovels 48 = .ok (.getfield 56, 3) := by decide +kernel
theorem dX9_shovels_51 : decode cX9_shovels 51 = .ok (.bipush 17, 2) := by decide +kernel
theorem dX9_shovels_53 : decode cX9_shovels 53 = .ok (.iload_n 1, 1) := by decide +kernel
theorem dX9_shovels_54 : decode cX9_shovels 54 = .ok (.imul, 1) := by decide +kernel
theorem dX9_shovels_55 : decode cX9_shovels 55 = .ok (.iload 5, 2) := by decide +kernel
theorem dX9_shovels_57 : decode cX9_shovels 57 = .ok (.iadd, 1) := by decide +kernel
theorem dX9_shovels_58 : decode cX9_shovels 58 = .ok (.iaload, 1) := by decide +kernel
theorem dX9_shovels_59 : decode cX9_shovels 59 = .ok (.isub, 1) := by decide +kernel
theorem dX9_shovels_60 : decode cX9_shovels 60 = .ok (.istore 6, 2) := by decide +kernel
theorem dX9_shovels_62 : decode cX9_shovels 62 = .ok (.iload_n 3, 1) := by decide +kernel
theorem dX9_shovels_63 : decode cX9_shovels 63 = .ok (.iload 6, 2) := by decide +kernel
theorem dX9_shovels_65 : decode cX9_shovels 65 = .ok (.ifCond .ge 9, 3) := by decide +kernel
theorem dX9_shovels_68 : decode cX9_shovels 68 = .ok (.iload 6, 2) := by decide +kernel
theorem dX9_shovels_70 : decode cX9_shovels 70 = .ok (.ineg, 1) := by decide +kernel
theorem dX9_shovels_71 : decode cX9_shovels 71 = .ok (.goto 5, 3) := by decide +kernel
theorem dX9_shovels_74 : decode cX9_shovels 74 = .ok (.iload 6, 2) := by decide +kernel
theorem dX9_shovels_76 : decode cX9_shovels 76 = .ok (.iadd, 1) := by decide +kernel
theorem dX9_shovels_77 : decode cX9_shovels 77 = .ok (.istore_n 3, 1) := by decide +kernel
theorem dX9_shovels_78 : decode cX9_shovels 78 = .ok (.iload 4, 2) := by decide +kernel
theorem dX9_shovels_80 : decode cX9_shovels 80 = .ok (.iload 6, 2) := by decide +kernel
theorem dX9_shovels_82 : decode cX9_shovels 82 = .ok (.iadd, 1) := by decide +kernel
theorem dX9_shovels_83 : decode cX9_shovels 83 = .ok (.istore 4, 2) := by decide +kernel
theorem dX9_shovels_85 : decode cX9_shovels 85 = .ok (.iinc 5 1, 3) := by decide +kernel
theorem dX9_shovels_88 : decode cX9_shovels 88 = .ok (.goto (-57), 3) := by decide +kernel
theorem dX9_shovels_91 : decode cX9_shovels 91 = .ok (.aload_n 0, 1) := by decide +kernel
theorem dX9_shovels_92 : decode cX9_shovels 92 = .ok (.iload 4, 2) := by decide +kernel
theorem dX9_shovels_94 : decode cX9_shovels 94 = .ok (.iload_n 3, 1) := by decide +kernel
theorem dX9_shovels_95 : decode cX9_shovels 95 = .ok (.invokevirtual 105, 3) := by decide +kernel
theorem dX9_shovels_98 : decode cX9_shovels 98 = .ok (.ireturn, 1) := by decide +kernel
theorem dX9_suspect_0 : decode cX9_suspect 0 = .ok (.iload_n 1, 1) := by decide +kernel
theorem dX9_suspect_1 : decode cX9_suspect 1 = .ok (.invokestatic 274, 3) := by decide +kernel
theorem dX9_suspect_4 : decode cX9_suspect 4 = .ok (.ifCond .ne 7, 3) := by decide +kernel
theorem dX9_suspect_7 : decode cX9_suspect 7 = .ok (.iconst (-1), 1) := by decide +kernel
theorem dX9_suspect_8 : decode cX9_suspect 8 = .ok (.goto 8, 3) := by decide +kernel
theorem dX9_suspect_11 : decode cX9_suspect 11 = .ok (.aload_n 0, 1) := by decide +kernel
theorem dX9_suspect_12 : decode cX9_suspect 12 = .ok (.iload_n 1, 1) := by decide +kernel
theorem dX9_suspect_13 : decode cX9_suspect 13 = .ok (.invokevirtual 280, 3) := by decide +kernel
theorem dX9_suspect_16 : decode cX9_suspect 16 = .ok (.istore_n 2, 1) := by decide +kernel
theorem dX9_suspect_17 : decode cX9_suspect 17 = .ok (.iload_n 2, 1) := by decide +kernel
theorem dX9_suspect_18 : decode cX9_suspect 18 = .ok (.ifCond .ge 5, 3) := by decide +kernel
theorem dX9_suspect_21 : decode cX9_suspect 21 = .ok (.iload_n 2, 1) := by decide +kernel
theorem dX9_suspect_22 : decode cX9_suspect 22 = .ok (.ireturn, 1) := by decide +kernel
theorem dX9_suspect_23 : decode cX9_suspect 23 = .ok (.bipush (-9), 2) := by decide +kernel
theorem dX9_suspect_25 : decode cX9_suspect 25 = .ok (.istore_n 3, 1) := by decide +kernel
theorem dX9_suspect_26 : decode cX9_suspect 26 = .ok (.iconst 0, 1) := by decide +kernel
theorem dX9_suspect_27 : decode cX9_suspect 27 = .ok (.istore 4, 2) := by decide +kernel
theorem dX9_suspect_29 : decode cX9_suspect 29 = .ok (.iconst 0, 1) := by decide +kernel
theorem dX9_suspect_30 : decode cX9_suspect 30 = .ok (.istore 5, 2) := by decide +kernel
theorem dX9_suspect_32 : decode cX9_suspect 32 = .ok (.iload 5, 2) := by decide +kernel
theorem dX9_suspect_34 : decode cX9_suspect 34 = .ok (.aload_n 0, 1) := by decide +kernel
theorem dX9_suspect_35 : decode cX9_suspect 35 = .ok (.getfield 155, 3) := by decide +kernel
theorem dX9_suspect_38 : decode cX9_suspect 38 = .ok (.if_icmp .ge 54, 3) := by decide +kernel
theorem dX9_suspect_41 : decode cX9_suspect 41 = .ok (.aload_n 0, 1) := by decide +kernel
theorem dX9_suspect_42 : decode cX9_suspect 42 = .ok (.getfield 32, 3) := by decide +kernel
theorem dX9_suspect_45 : decode cX9_suspect 45 = .ok (.iload 5, 2) := by decide +kernel
theorem dX9_suspect_47 : decode cX9_suspect 47 = .ok (.iaload, 1) := by decide +kernel
theorem dX9_suspect_48 : decode cX9_suspect 48 = .ok (.aload_n 0, 1) := by decide +kernel
theorem dX9_suspect_49 : decode cX9_suspect 49 = .ok (.getfield 56, 3) := by decide +kernel
theorem dX9_suspect_52 : decode cX9_suspect 52 = .ok (.bipush 17, 2) := by decide +kernel
theorem dX9_suspect_54 : decode cX9_suspect 54 = .ok (.iload_n 1, 1) := by decide +kernel
theorem dX9_suspect_55 : decode cX9_suspect 55 = .ok (.imul, 1) := by decide +kernel
theorem dX9_suspect_56 : decode cX9_suspect 56 = .ok (.iload 5, 2) := by decide +kernel
theorem dX9_suspect_58 : decode cX9_suspect 58 = .ok (.iadd, 1) := by decide +kernel
theorem dX9_suspect_59 : decode cX9_suspect 59 = .ok (.iaload, 1) := by decide +kernel
theorem dX9_suspect_60 : decode cX9_suspect 60 = .ok (.isub, 1) := by decide +kernel
theorem dX9_suspect_61 : decode cX9_suspect 61 = .ok (.istore 6, 2) := by decide +kernel
theorem dX9_suspect_63 : decode cX9_suspect 63 = .ok (.iload 6, 2) := by decide +kernel
theorem dX9_suspect_65 : decode cX9_suspect 65 = .ok (.iload 4, 2) := by decide +kernel
theorem dX9_suspect_67 : decode cX9_suspect 67 = .ok (.if_icmp .le 8, 3) := by decide +kernel
theorem dX9_suspect_70 : decode cX9_suspect 70 = .ok (.iload 5, 2) := by decide +kernel
theorem dX9_suspect_72 : decode cX9_suspect 72 = .ok (.goto 4, 3) := by decide +kernel
theorem dX9_suspect_75 : decode cX9_suspect 75 = .ok (.iload_n 3, 1) := by decide +kernel
theorem dX9_suspect_76 : decode cX9_suspect 76 = .ok (.istore_n 3, 1) := by decide +kernel
theorem dX9_suspect_77 : decode cX9_suspect 77 = .ok (.iload 4, 2) := by decide +kernel
theorem dX9_suspect_79 : decode cX9_suspect 79 = .ok (.iload 6, 2) := by decide +kernel
theorem dX9_suspect_81 : decode cX9_suspect 81 = .ok (.invokestatic 193, 3) := by decide +kernel
theorem dX9_suspect_84 : decode cX9_suspect 84 = .ok (.istore 4, 2) := by decide +kernel
theorem dX9_suspect_86 : decode cX9_suspect 86 = .ok (.iinc 5 1, 3) := by decide +kernel
theorem dX9_suspect_89 : decode cX9_suspect 89 = .ok (.goto (-57), 3) := by decide +kernel
theorem dX9_suspect_92 : decode cX9_suspect 92 = .ok (.iload_n 3, 1) := by decide +kernel
theorem dX9_suspect_93 : decode cX9_suspect 93 = .ok (.bipush (-9), 2) := by decide +kernel
theorem dX9_suspect_95 : decode cX9_suspect 95 = .ok (.if_icmp .ne 8, 3) := by decide +kernel
theorem dX9_suspect_98 : decode cX9_suspect 98 = .ok (.bipush (-9), 2) := by decide +kernel
theorem dX9_suspect_100 : decode cX9_suspect 100 = .ok (.goto 10, 3) := by decide +kernel
theorem dX9_suspect_103 : decode cX9_suspect 103 = .ok (.aload_n 0, 1) := by decide +kernel
theorem dX9_suspect_104 : decode cX9_suspect 104 = .ok (.iload 4, 2) := by decide +kernel
theorem dX9_suspect_106 : decode cX9_suspect 106 = .ok (.iload_n 3, 1) := by decide +kernel
theorem dX9_suspect_107 : decode cX9_suspect 107 = .ok (.invokevirtual 105, 3) := by decide +kernel
theorem dX9_suspect_110 : decode cX9_suspect 110 = .ok (.ireturn, 1) := by decide +kernel
theorem dX9_carry_0 : decode cX9_carry 0 = .ok (.aload_n 0, 1) := by decide +kernel
theorem dX9_carry_1 : decode cX9_carry 1 = .ok (.iload_n 1, 1) := by decide +kernel
theorem dX9_carry_2 : decode cX9_carry 2 = .ok (.invokevirtual 246, 3) := by decide +kernel
theorem dX9_carry_5 : decode cX9_carry 5 = .ok (.ifCond .ne 5, 3) := by decide +kernel
theorem dX9_carry_8 : decode cX9_carry 8 = .ok (.iconst (-1), 1) := by decide +kernel
theorem dX9_carry_9 : decode cX9_carry 9 = .ok (.ireturn, 1) := by decide +kernel
theorem dX9_carry_10 : decode cX9_carry 10 = .ok (.aload_n 0, 1) := by decide +kernel
theorem dX9_carry_11 : decode cX9_carry 11 = .ok (.getfield 44, 3) := by decide +kernel
theorem dX9_carry_14 : decode cX9_carry 14 = .ok (.iload_n 1, 1) := by decide +kernel
theorem dX9_carry_15 : decode cX9_carry 15 = .ok (.iaload, 1) := by decide +kernel
theorem dX9_carry_16 : decode cX9_carry 16 = .ok (.istore 4, 2) := by decide +kernel
theorem dX9_carry_18 : decode cX9_carry 18 = .ok (.aload_n 0, 1) := by decide +kernel
theorem dX9_carry_19 : decode cX9_carry 19 = .ok (.getfield 32, 3) := by decide +kernel
theorem dX9_carry_22 : decode cX9_carry 22 = .ok (.iconst 0, 1) := by decide +kernel
theorem dX9_carry_23 : decode cX9_carry 23 = .ok (.invokestatic 179, 3) := by decide +kernel
theorem dX9_carry_26 : decode cX9_carry 26 = .ok (.iload 4, 2) := by decide +kernel
theorem dX9_carry_28 : decode cX9_carry 28 = .ok (.iconst (-1), 1) := by decide +kernel
theorem dX9_carry_29 : decode cX9_carry 29 = .ok (.ixor, 1) := by decide +kernel
theorem dX9_carry_30 : decode cX9_carry 30 = .ok (.iand, 1) := by decide +kernel
theorem dX9_carry_31 : decode cX9_carry 31 = .ok (.istore 5, 2) := by decide +kernel
theorem dX9_carry_33 : decode cX9_carry 33 = .ok (.aload_n 0, 1) := by decide +kernel
theorem dX9_carry_34 : decode cX9_carry 34 = .ok (.getfield 155, 3) := by decide +kernel
theorem dX9_carry_37 : decode cX9_carry 37 = .ok (.aload_n 0, 1) := by decide +kernel
theorem dX9_carry_38 : decode cX9_carry 38 = .ok (.getfield 158, 3) := by decide +kernel
theorem dX9_carry_41 : decode cX9_carry 41 = .ok (.idiv, 1) := by decide +kernel
theorem dX9_carry_42 : decode cX9_carry 42 = .ok (.istore 6, 2) := by decide +kernel
theorem dX9_carry_44 : decode cX9_carry 44 = .ok (.iload_n 2, 1) := by decide +kernel
theorem dX9_carry_45 : decode cX9_carry 45 = .ok (.bipush (-4), 2) := by decide +kernel
theorem dX9_carry_47 : decode cX9_carry 47 = .ok (.iconst 4, 1) := by decide +kernel
theorem dX9_carry_48 : decode cX9_carry 48 = .ok (.invokestatic 79, 3) := by decide +kernel
theorem dX9_carry_51 : decode cX9_carry 51 = .ok (.ifCond .eq 13, 3) := by decide +kernel
theorem dX9_carry_54 : decode cX9_carry 54 = .ok (.iload_n 3, 1) := by decide +kernel
theorem dX9_carry_55 : decode cX9_carry 55 = .ok (.bipush (-4), 2) := by decide +kernel
theorem dX9_carry_57 : decode cX9_carry 57 = .ok (.iconst 4, 1) := by decide +kernel
theorem dX9_carry_58 : decode cX9_carry 58 = .ok (.invokestatic 79, 3) := by decide +kernel
theorem dX9_carry_61 : decode cX9_carry 61 = .ok (.ifCond .ne 6, 3) := by decide +kernel
theorem dX9_carry_64 : decode cX9_carry 64 = .ok (.bipush (-9), 2) := by decide +kernel
theorem dX9_carry_66 : decode cX9_carry 66 = .ok (.ireturn, 1) := by decide +kernel
theorem dX9_carry_67 : decode cX9_carry 67 = .ok (.iconst 0, 1) := by decide +kernel
theorem dX9_carry_68 : decode cX9_carry 68 = .ok (.istore 7, 2) := by decide +kernel
theorem dX9_carry_70 : decode cX9_carry 70 = .ok (.iconst 0, 1) := by decide +kernel
theorem dX9_carry_71 : decode cX9_carry 71 = .ok (.istore 8, 2) := by decide +kernel
theorem dX9_carry_73 : decode cX9_carry 73 = .ok (.iconst 0, 1) := by decide +kernel
theorem dX9_carry_74 : decode cX9_carry 74 = .ok (.istore 9, 2) := by decide +kernel
theorem dX9_carry_76 : decode cX9_carry 76 = .ok (.iload 9, 2) := by decide +kernel
theorem dX9_carry_78 : decode cX9_carry 78 = .ok (.aload_n 0, 1) := by decide +kernel
theorem dX9_carry_79 : decode cX9_carry 79 = .ok (.getfield 155, 3) := by decide +kernel
theorem dX9_carry_82 : decode cX9_carry 82 = .ok (.if_icmp .ge 176, 3) := by decide +kernel
theorem dX9_carry_85 : decode cX9_carry 85 = .ok (.iload 4, 2) := by decide +kernel
theorem dX9_carry_87 : decode cX9_carry 87 = .ok (.iload 9, 2) := by decide +kernel
theorem dX9_carry_89 : decode cX9_carry 89 = .ok (.invokestatic 170, 3) := by decide +kernel
theorem dX9_carry_92 : decode cX9_carry 92 = .ok (.ifCond .eq 160, 3) := by decide +kernel
theorem dX9_carry_95 : decode cX9_carry 95 = .ok (.iload 9, 2) := by decide +kernel
theorem dX9_carry_97 : decode cX9_carry 97 = .ok (.aload_n 0, 1) := by decide +kernel
theorem dX9_carry_98 : decode cX9_carry 98 = .ok (.getfield 158, 3) := by decide +kernel
theorem dX9_carry_101 : decode cX9_carry 101 = .ok (.irem, 1) := by decide +kernel
theorem dX9_carry_102 : decode cX9_carry 102 = .ok (.iload_n 2, 1) := by decide +kernel
theorem dX9_carry_103 : decode cX9_carry 103 = .ok (.iadd, 1) := by decide +kernel
theorem dX9_carry_104 : decode cX9_carry 104 = .ok (.istore 10, 2) := by decide +kernel
theorem dX9_carry_106 : decode cX9_carry 106 = .ok (.iload 9, 2) := by decide +kernel
theorem dX9_carry_108 : decode cX9_carry 108 = .ok (.aload_n 0, 1) := by decide +kernel
theorem dX9_carry_109 : decode cX9_carry 109 = .ok (.getfield 158, 3) := by decide +kernel
theorem dX9_carry_112 : decode cX9_carry 112 = .ok (.idiv, 1) := by decide +kernel
theorem dX9_carry_113 : decode cX9_carry 113 = .ok (.iload_n 3, 1) := by decide +kernel
theorem dX9_carry_114 : decode cX9_carry 114 = .ok (.iadd, 1) := by decide +kernel
theorem dX9_carry_115 : decode cX9_carry 115 = .ok (.istore 11, 2) := by decide +kernel
theorem dX9_carry_117 : decode cX9_carry 117 = .ok (.iload 10, 2) := by decide +kernel
theorem dX9_carry_119 : decode cX9_carry 119 = .ok (.iconst 0, 1) := by decide +kernel
theorem dX9_carry_120 : decode cX9_carry 120 = .ok (.aload_n 0, 1) := by decide +kernel
theorem dX9_carry_121 : decode cX9_carry 121 = .ok (.getfield 158, 3) := by decide +kernel
theorem dX9_carry_124 : decode cX9_carry 124 = .ok (.iconst 1, 1) := by decide +kernel
theorem dX9_carry_125 : decode cX9_carry 125 = .ok (.isub, 1) := by decide +kernel
theorem dX9_carry_126 : decode cX9_carry 126 = .ok (.invokestatic 79, 3) := by decide +kernel
theorem dX9_carry_129 : decode cX9_carry 129 = .ok (.ifCond .eq 16, 3) := by decide +kernel
theorem dX9_carry_132 : decode cX9_carry 132 = .ok (.iload 11, 2) := by decide +kernel
theorem dX9_carry_134 : decode cX9_carry 134 = .ok (.iconst 0, 1) := by decide +kernel
theorem dX9_carry_135 : decode cX9_carry 135 = .ok (.iload 6, 2) := by decide +kernel
theorem dX9_carry_137 : decode cX9_carry 137 = .ok (.iconst 1, 1) := by decide +kernel
theorem dX9_carry_138 : decode cX9_carry 138 = .ok (.isub, 1) := by decide +kernel
theorem dX9_carry_139 : decode cX9_carry 139 = .ok (.invokestatic 79, 3) := by decide +kernel
theorem dX9_carry_142 : decode cX9_carry 142 = .ok (.ifCond .ne 6, 3) := by decide +kernel
theorem dX9_carry_145 : decode cX9_carry 145 = .ok (.bipush (-9), 2) := by decide +kernel
theorem dX9_carry_147 : decode cX9_carry 147 = .ok (.ireturn, 1) := by decide +kernel
theorem dX9_carry_148 : decode cX9_carry 148 = .ok (.aload_n 0, 1) := by decide +kernel
theorem dX9_carry_149 : decode cX9_carry 149 = .ok (.getfield 158, 3) := by decide +kernel
theorem dX9_carry_152 : decode cX9_carry 152 = .ok (.iload 11, 2) := by decide +kernel
theorem dX9_carry_154 : decode cX9_carry 154 = .ok (.imul, 1) := by decide +kernel
theorem dX9_carry_155 : decode cX9_carry 155 = .ok (.iload 10, 2) := by decide +kernel
theorem dX9_carry_157 : decode cX9_carry 157 = .ok (.iadd, 1) := by decide +kernel
theorem dX9_carry_158 : decode cX9_carry 158 = .ok (.istore 12, 2) := by decide +kernel
theorem dX9_carry_160 : decode cX9_carry 160 = .ok (.iconst 1, 1) := by decide +kernel
theorem dX9_carry_161 : decode cX9_carry 161 = .ok (.iload 12, 2) := by decide +kernel
theorem dX9_carry_163 : decode cX9_carry 163 = .ok (.ishl, 1) := by decide +kernel
theorem dX9_carry_164 : decode cX9_carry 164 = .ok (.aload_n 0, 1) := by decide +kernel
theorem dX9_carry_165 : decode cX9_carry 165 = .ok (.iload 12, 2) := by decide +kernel
theorem dX9_carry_167 : decode cX9_carry 167 = .ok (.invokevirtual 173, 3) := by decide +kernel
theorem dX9_carry_170 : decode cX9_carry 170 = .ok (.ior, 1) := by decide +kernel
theorem dX9_carry_171 : decode cX9_carry 171 = .ok (.iload 5, 2) := by decide +kernel
theorem dX9_carry_173 : decode cX9_carry 173 = .ok (.iand, 1) := by decide +kernel
theorem dX9_carry_174 : decode cX9_carry 174 = .ok (.ifCond .eq 6, 3) := by decide +kernel
theorem dX9_carry_177 : decode cX9_carry 177 = .ok (.bipush (-9), 2) := by decide +kernel
theorem dX9_carry_179 : decode cX9_carry 179 = .ok (.ireturn, 1) := by decide +kernel
theorem dX9_carry_180 : decode cX9_carry 180 = .ok (.iload 7, 2) := by decide +kernel
theorem dX9_carry_182 : decode cX9_carry 182 = .ok (.iconst 1, 1) := by decide +kernel
theorem dX9_carry_183 : decode cX9_carry 183 = .ok (.iload 12, 2) := by decide +kernel
theorem dX9_carry_185 : decode cX9_carry 185 = .ok (.ishl, 1) := by decide +kernel
theorem dX9_carry_186 : decode cX9_carry 186 = .ok (.ior, 1) := by decide +kernel
theorem dX9_carry_187 : decode cX9_carry 187 = .ok (.istore 7, 2) := by decide +kernel
theorem dX9_carry_189 : decode cX9_carry 189 = .ok (.iload 4, 2) := by decide +kernel
theorem dX9_carry_191 : decode cX9_carry 191 = .ok (.iload 12, 2) := by decide +kernel
theorem dX9_carry_193 : decode cX9_carry 193 = .ok (.invokestatic 170, 3) := by decide +kernel
theorem dX9_carry_196 : decode cX9_carry 196 = .ok (.ifCond .eq 13, 3) := by decide +kernel
theorem dX9_carry_199 : decode cX9_carry 199 = .ok (.aload_n 0, 1) := by decide +kernel
theorem dX9_carry_200 : decode cX9_carry 200 = .ok (.getfield 32, 3) := by decide +kernel
theorem dX9_carry_203 : decode cX9_carry 203 = .ok (.iload 12, 2) := by decide +kernel
theorem dX9_carry_205 : decode cX9_carry 205 = .ok (.iaload, 1) := by decide +kernel
theorem dX9_carry_206 : decode cX9_carry 206 = .ok (.goto 4, 3) := by decide +kernel
theorem dX9_carry_209 : decode cX9_carry 209 = .ok (.iconst 0, 1) := by decide +kernel
theorem dX9_carry_210 : decode cX9_carry 210 = .ok (.istore 13, 2) := by decide +kernel
theorem dX9_carry_212 : decode cX9_carry 212 = .ok (.iload 8, 2) := by decide +kernel
theorem dX9_carry_214 : decode cX9_carry 214 = .ok (.aload_n 0, 1) := by decide +kernel
theorem dX9_carry_215 : decode cX9_carry 215 = .ok (.getfield 32, 3) := by decide +kernel
theorem dX9_carry_218 : decode cX9_carry 218 = .ok (.iload 9, 2) := by decide +kernel
theorem dX9_carry_220 : decode cX9_carry 220 = .ok (.iaload, 1) := by decide +kernel
theorem dX9_carry_221 : decode cX9_carry 221 = .ok (.iload 13, 2) := by decide +kernel
theorem dX9_carry_223 : decode cX9_carry 223 = .ok (.if_icmp .le 16, 3) := by decide +kernel
theorem dX9_carry_226 : decode cX9_carry 226 = .ok (.aload_n 0, 1) := by decide +kernel
theorem dX9_carry_227 : decode cX9_carry 227 = .ok (.getfield 32, 3) := by decide +kernel
theorem dX9_carry_230 : decode cX9_carry 230 = .ok (.iload 9, 2) := by decide +kernel
theorem dX9_carry_232 : decode cX9_carry 232 = .ok (.iaload, 1) := by decide +kernel
theorem dX9_carry_233 : decode cX9_carry 233 = .ok (.iload 13, 2) := by decide +kernel
theorem dX9_carry_235 : decode cX9_carry 235 = .ok (.isub, 1) := by decide +kernel
theorem dX9_carry_236 : decode cX9_carry 236 = .ok (.goto 13, 3) := by decide +kernel
theorem dX9_carry_239 : decode cX9_carry 239 = .ok (.iload 13, 2) := by decide +kernel
theorem dX9_carry_241 : decode cX9_carry 241 = .ok (.aload_n 0, 1) := by decide +kernel
theorem dX9_carry_242 : decode cX9_carry 242 = .ok (.getfield 32, 3) := by decide +kernel
theorem dX9_carry_245 : decode cX9_carry 245 = .ok (.iload 9, 2) := by decide +kernel
theorem dX9_carry_247 : decode cX9_carry 247 = .ok (.iaload, 1) := by decide +kernel
theorem dX9_carry_248 : decode cX9_carry 248 = .ok (.isub, 1) := by decide +kernel
theorem dX9_carry_249 : decode cX9_carry 249 = .ok (.iadd, 1) := by decide +kernel
theorem dX9_carry_250 : decode cX9_carry 250 = .ok (.istore 8, 2) := by decide +kernel
theorem dX9_carry_252 : decode cX9_carry 252 = .ok (.iinc 9 1, 3) := by decide +kernel
theorem dX9_carry_255 : decode cX9_carry 255 = .ok (.goto (-179), 3) := by decide +kernel
theorem dX9_carry_258 : decode cX9_carry 258 = .ok (.iconst 0, 1) := by decide +kernel
theorem dX9_carry_259 : decode cX9_carry 259 = .ok (.istore 9, 2) := by decide +kernel
theorem dX9_carry_261 : decode cX9_carry 261 = .ok (.iload 9, 2) := by decide +kernel
theorem dX9_carry_263 : decode cX9_carry 263 = .ok (.aload_n 0, 1) := by decide +kernel
theorem dX9_carry_264 : decode cX9_carry 264 = .ok (.getfield 155, 3) := by decide +kernel
theorem dX9_carry_267 : decode cX9_carry 267 = .ok (.if_icmp .ge 40, 3) := by decide +kernel
theorem dX9_carry_270 : decode cX9_carry 270 = .ok (.iload 8, 2) := by decide +kernel
theorem dX9_carry_272 : decode cX9_carry 272 = .ok (.iload 4, 2) := by decide +kernel
theorem dX9_carry_274 : decode cX9_carry 274 = .ok (.iload 7, 2) := by decide +kernel
theorem dX9_carry_276 : decode cX9_carry 276 = .ok (.iconst (-1), 1) := by decide +kernel
theorem dX9_carry_277 : decode cX9_carry 277 = .ok (.ixor, 1) := by decide +kernel
theorem dX9_carry_278 : decode cX9_carry 278 = .ok (.iand, 1) := by decide +kernel
theorem dX9_carry_279 : decode cX9_carry 279 = .ok (.iload 9, 2) := by decide +kernel
theorem dX9_carry_281 : decode cX9_carry 281 = .ok (.invokestatic 170, 3) := by decide +kernel
theorem dX9_carry_284 : decode cX9_carry 284 = .ok (.ifCond .eq 13, 3) := by decide +kernel
theorem dX9_carry_287 : decode cX9_carry 287 = .ok (.aload_n 0, 1) := by decide +kernel
theorem dX9_carry_288 : decode cX9_carry 288 = .ok (.getfield 32, 3) := by decide +kernel
theorem dX9_carry_291 : decode cX9_carry 291 = .ok (.iload 9, 2) := by decide +kernel
theorem dX9_carry_293 : decode cX9_carry 293 = .ok (.iaload, 1) := by decide +kernel
theorem dX9_carry_294 : decode cX9_carry 294 = .ok (.goto 4, 3) := by decide +kernel
theorem dX9_carry_297 : decode cX9_carry 297 = .ok (.iconst 0, 1) := by decide +kernel
theorem dX9_carry_298 : decode cX9_carry 298 = .ok (.iadd, 1) := by decide +kernel
theorem dX9_carry_299 : decode cX9_carry 299 = .ok (.istore 8, 2) := by decide +kernel
theorem dX9_carry_301 : decode cX9_carry 301 = .ok (.iinc 9 1, 3) := by decide +kernel
theorem dX9_carry_304 : decode cX9_carry 304 = .ok (.goto (-43), 3) := by decide +kernel
theorem dX9_carry_307 : decode cX9_carry 307 = .ok (.iload 8, 2) := by decide +kernel
theorem dX9_carry_309 : decode cX9_carry 309 = .ok (.ireturn, 1) := by decide +kernel
theorem dX9_join_0 : decode cX9_join 0 = .ok (.aload_n 0, 1) := by decide +kernel
theorem dX9_join_1 : decode cX9_join 1 = .ok (.iload_n 1, 1) := by decide +kernel
theorem dX9_join_2 : decode cX9_join 2 = .ok (.invokevirtual 246, 3) := by decide +kernel
theorem dX9_join_5 : decode cX9_join 5 = .ok (.ifCond .eq 22, 3) := by decide +kernel
theorem dX9_join_8 : decode cX9_join 8 = .ok (.iload_n 2, 1) := by decide +kernel
theorem dX9_join_9 : decode cX9_join 9 = .ok (.iconst 0, 1) := by decide +kernel
theorem dX9_join_10 : decode cX9_join 10 = .ok (.aload_n 0, 1) := by decide +kernel
theorem dX9_join_11 : decode cX9_join 11 = .ok (.getfield 187, 3) := by decide +kernel
theorem dX9_join_14 : decode cX9_join 14 = .ok (.iconst 1, 1) := by decide +kernel
theorem dX9_join_15 : decode cX9_join 15 = .ok (.isub, 1) := by decide +kernel
theorem dX9_join_16 : decode cX9_join 16 = .ok (.invokestatic 79, 3) := by decide +kernel
theorem dX9_join_19 : decode cX9_join 19 = .ok (.ifCond .eq 8, 3) := by decide +kernel
theorem dX9_join_22 : decode cX9_join 22 = .ok (.iload_n 1, 1) := by decide +kernel
theorem dX9_join_23 : decode cX9_join 23 = .ok (.iload_n 2, 1) := by decide +kernel
theorem dX9_join_24 : decode cX9_join 24 = .ok (.if_icmp .ne 5, 3) := by decide +kernel
theorem dX9_join_27 : decode cX9_join 27 = .ok (.iconst (-1), 1) := by decide +kernel
theorem dX9_join_28 : decode cX9_join 28 = .ok (.ireturn, 1) := by decide +kernel
theorem dX9_join_29 : decode cX9_join 29 = .ok (.aload_n 0, 1) := by decide +kernel
theorem dX9_join_30 : decode cX9_join 30 = .ok (.getfield 32, 3) := by decide +kernel
theorem dX9_join_33 : decode cX9_join 33 = .ok (.iconst 0, 1) := by decide +kernel
theorem dX9_join_34 : decode cX9_join 34 = .ok (.invokestatic 179, 3) := by decide +kernel
theorem dX9_join_37 : decode cX9_join 37 = .ok (.istore_n 3, 1) := by decide +kernel
theorem dX9_join_38 : decode cX9_join 38 = .ok (.iconst 1, 1) := by decide +kernel
theorem dX9_join_39 : decode cX9_join 39 = .ok (.aload_n 0, 1) := by decide +kernel
theorem dX9_join_40 : decode cX9_join 40 = .ok (.getfield 155, 3) := by decide +kernel
theorem dX9_join_43 : decode cX9_join 43 = .ok (.ishl, 1) := by decide +kernel
theorem dX9_join_44 : decode cX9_join 44 = .ok (.iconst 1, 1) := by decide +kernel
theorem dX9_join_45 : decode cX9_join 45 = .ok (.isub, 1) := by decide +kernel
theorem dX9_join_46 : decode cX9_join 46 = .ok (.iload_n 3, 1) := by decide +kernel
theorem dX9_join_47 : decode cX9_join 47 = .ok (.iconst (-1), 1) := by decide +kernel
theorem dX9_join_48 : decode cX9_join 48 = .ok (.ixor, 1) := by decide +kernel
theorem dX9_join_49 : decode cX9_join 49 = .ok (.iand, 1) := by decide +kernel
theorem dX9_join_50 : decode cX9_join 50 = .ok (.istore 4, 2) := by decide +kernel
theorem dX9_join_52 : decode cX9_join 52 = .ok (.aload_n 0, 1) := by decide +kernel
theorem dX9_join_53 : decode cX9_join 53 = .ok (.getfield 44, 3) := by decide +kernel
theorem dX9_join_56 : decode cX9_join 56 = .ok (.iload_n 1, 1) := by decide +kernel
theorem dX9_join_57 : decode cX9_join 57 = .ok (.iaload, 1) := by decide +kernel
theorem dX9_join_58 : decode cX9_join 58 = .ok (.invokestatic 294, 3) := by decide +kernel
theorem dX9_join_61 : decode cX9_join 61 = .ok (.istore 5, 2) := by decide +kernel
theorem dX9_join_63 : decode cX9_join 63 = .ok (.bipush (-9), 2) := by decide +kernel
theorem dX9_join_65 : decode cX9_join 65 = .ok (.istore 6, 2) := by decide +kernel
theorem dX9_join_67 : decode cX9_join 67 = .ok (.iload 4, 2) := by decide +kernel
theorem dX9_join_69 : decode cX9_join 69 = .ok (.istore 7, 2) := by decide +kernel
theorem dX9_join_71 : decode cX9_join 71 = .ok (.iload 7, 2) := by decide +kernel
theorem dX9_join_73 : decode cX9_join 73 = .ok (.ifCond .lt 79, 3) := by decide +kernel
theorem dX9_join_76 : decode cX9_join 76 = .ok (.iload 7, 2) := by decide +kernel
theorem dX9_join_78 : decode cX9_join 78 = .ok (.iload 4, 2) := by decide +kernel
theorem dX9_join_80 : decode cX9_join 80 = .ok (.iconst (-1), 1) := by decide +kernel
theorem dX9_join_81 : decode cX9_join 81 = .ok (.ixor, 1) := by decide +kernel
theorem dX9_join_82 : decode cX9_join 82 = .ok (.iand, 1) := by decide +kernel
theorem dX9_join_83 : decode cX9_join 83 = .ok (.ifCond .ne 11, 3) := by decide +kernel
theorem dX9_join_86 : decode cX9_join 86 = .ok (.iload 7, 2) := by decide +kernel
theorem dX9_join_88 : decode cX9_join 88 = .ok (.invokestatic 199, 3) := by decide +kernel
theorem dX9_join_91 : decode cX9_join 91 = .ok (.goto 6, 3) := by decide +kernel
theorem dX9_join_94 : decode cX9_join 94 = .ok (.ldc_w 297, 3) := by decide +kernel
theorem dX9_join_97 : decode cX9_join 97 = .ok (.istore 8, 2) := by decide +kernel
theorem dX9_join_99 : decode cX9_join 99 = .ok (.iload 8, 2) := by decide +kernel
theorem dX9_join_101 : decode cX9_join 101 = .ok (.iconst 4, 1) := by decide +kernel
theorem dX9_join_102 : decode cX9_join 102 = .ok (.if_icmp .gt 44, 3) := by decide +kernel
theorem dX9_join_105 : decode cX9_join 105 = .ok (.iload 6, 2) := by decide +kernel
theorem dX9_join_107 : decode cX9_join 107 = .ok (.bipush (-9), 2) := by decide +kernel
theorem dX9_join_109 : decode cX9_join 109 = .ok (.if_icmp .eq 13, 3) := by decide +kernel
theorem dX9_join_112 : decode cX9_join 112 = .ok (.iload 8, 2) := by decide +kernel
theorem dX9_join_114 : decode cX9_join 114 = .ok (.iload 6, 2) := by decide +kernel
theorem dX9_join_116 : decode cX9_join 116 = .ok (.invokestatic 199, 3) := by decide +kernel
theorem dX9_join_119 : decode cX9_join 119 = .ok (.if_icmp .gt 27, 3) := by decide +kernel
theorem dX9_join_122 : decode cX9_join 122 = .ok (.aload_n 0, 1) := by decide +kernel
theorem dX9_join_123 : decode cX9_join 123 = .ok (.iload_n 3, 1) := by decide +kernel
theorem dX9_join_124 : decode cX9_join 124 = .ok (.iload 7, 2) := by decide +kernel
theorem dX9_join_126 : decode cX9_join 126 = .ok (.ior, 1) := by decide +kernel
theorem dX9_join_127 : decode cX9_join 127 = .ok (.iload 5, 2) := by decide +kernel
theorem dX9_join_129 : decode cX9_join 129 = .ok (.invokevirtual 176, 3) := by decide +kernel
theorem dX9_join_132 : decode cX9_join 132 = .ok (.aload_n 0, 1) := by decide +kernel
theorem dX9_join_133 : decode cX9_join 133 = .ok (.getfield 44, 3) := by decide +kernel
theorem dX9_join_136 : decode cX9_join 136 = .ok (.iload_n 2, 1) := by decide +kernel
theorem dX9_join_137 : decode cX9_join 137 = .ok (.iaload, 1) := by decide +kernel
theorem dX9_join_138 : decode cX9_join 138 = .ok (.iand, 1) := by decide +kernel
theorem dX9_join_139 : decode cX9_join 139 = .ok (.ifCond .eq 7, 3) := by decide +kernel
theorem dX9_join_142 : decode cX9_join 142 = .ok (.iload 7, 2) := by decide +kernel
theorem dX9_join_144 : decode cX9_join 144 = .ok (.istore 6, 2) := by decide +kernel
theorem dX9_join_146 : decode cX9_join 146 = .ok (.iinc 7 (-1), 3) := by decide +kernel
theorem dX9_join_149 : decode cX9_join 149 = .ok (.goto (-78), 3) := by decide +kernel
theorem dX9_join_152 : decode cX9_join 152 = .ok (.iload 6, 2) := by decide +kernel
theorem dX9_join_154 : decode cX9_join 154 = .ok (.bipush (-9), 2) := by decide +kernel
theorem dX9_join_156 : decode cX9_join 156 = .ok (.if_icmp .ne 8, 3) := by decide +kernel
theorem dX9_join_159 : decode cX9_join 159 = .ok (.bipush (-9), 2) := by decide +kernel
theorem dX9_join_161 : decode cX9_join 161 = .ok (.goto 14, 3) := by decide +kernel
theorem dX9_join_164 : decode cX9_join 164 = .ok (.aload_n 0, 1) := by decide +kernel
theorem dX9_join_165 : decode cX9_join 165 = .ok (.iload 6, 2) := by decide +kernel
theorem dX9_join_167 : decode cX9_join 167 = .ok (.iload 6, 2) := by decide +kernel
theorem dX9_join_169 : decode cX9_join 169 = .ok (.invokestatic 199, 3) := by decide +kernel
theorem dX9_join_172 : decode cX9_join 172 = .ok (.invokevirtual 105, 3) := by decide +kernel
theorem dX9_join_175 : decode cX9_join 175 = .ok (.ireturn, 1) := by decide +kernel
theorem dX9_lowest_0 : decode cX9_lowest 0 = .ok (.iconst 0, 1) := by decide +kernel
theorem dX9_lowest_1 : decode cX9_lowest 1 = .ok (.istore_n 1, 1) := by decide +kernel
theorem dX9_lowest_2 : decode cX9_lowest 2 = .ok (.iload_n 1, 1) := by decide +kernel
theorem dX9_lowest_3 : decode cX9_lowest 3 = .ok (.bipush 15, 2) := by decide +kernel
theorem dX9_lowest_5 : decode cX9_lowest 5 = .ok (.if_icmp .ge 17, 3) := by decide +kernel
theorem dX9_lowest_8 : decode cX9_lowest 8 = .ok (.iload_n 0, 1) := by decide +kernel
theorem dX9_lowest_9 : decode cX9_lowest 9 = .ok (.iload_n 1, 1) := by decide +kernel
theorem dX9_lowest_10 : decode cX9_lowest 10 = .ok (.invokestatic 170, 3) := by decide +kernel
theorem dX9_lowest_13 : decode cX9_lowest 13 = .ok (.ifCond .ne 9, 3) := by decide +kernel
theorem dX9_lowest_16 : decode cX9_lowest 16 = .ok (.iinc 1 1, 3) := by decide +kernel
theorem dX9_lowest_19 : decode cX9_lowest 19 = .ok (.goto (-17), 3) := by decide +kernel
theorem dX9_lowest_22 : decode cX9_lowest 22 = .ok (.iload_n 1, 1) := by decide +kernel
theorem dX9_lowest_23 : decode cX9_lowest 23 = .ok (.ireturn, 1) := by decide +kernel
theorem dX9_part__0 : decode cX9_part_ 0 = .ok (.aload_n 0, 1) := by decide +kernel
theorem dX9_part__1 : decode cX9_part_ 1 = .ok (.iload_n 1, 1) := by decide +kernel
theorem dX9_part__2 : decode cX9_part_ 2 = .ok (.invokevirtual 246, 3) := by decide +kernel
theorem dX9_part__5 : decode cX9_part_ 5 = .ok (.ifCond .ne 5, 3) := by decide +kernel
theorem dX9_part__8 : decode cX9_part_ 8 = .ok (.iconst (-1), 1) := by decide +kernel
theorem dX9_part__9 : decode cX9_part_ 9 = .ok (.ireturn, 1) := by decide +kernel
theorem dX9_part__10 : decode cX9_part_ 10 = .ok (.aload_n 0, 1) := by decide +kernel
theorem dX9_part__11 : decode cX9_part_ 11 = .ok (.getfield 44, 3) := by decide +kernel
theorem dX9_part__14 : decode cX9_part_ 14 = .ok (.iload_n 1, 1) := by decide +kernel
theorem dX9_part__15 : decode cX9_part_ 15 = .ok (.iaload, 1) := by decide +kernel
theorem dX9_part__16 : decode cX9_part_ 16 = .ok (.istore_n 2, 1) := by decide +kernel
theorem dX9_part__17 : decode cX9_part_ 17 = .ok (.bipush (-9), 2) := by decide +kernel
theorem dX9_part__19 : decode cX9_part_ 19 = .ok (.istore_n 3, 1) := by decide +kernel
theorem dX9_part__20 : decode cX9_part_ 20 = .ok (.ldc_w 297, 3) := by decide +kernel
theorem dX9_part__23 : decode cX9_part_ 23 = .ok (.istore 4, 2) := by decide +kernel
theorem dX9_part__25 : decode cX9_part_ 25 = .ok (.iload_n 2, 1) := by decide +kernel
theorem dX9_part__26 : decode cX9_part_ 26 = .ok (.istore 5, 2) := by decide +kernel
theorem dX9_part__28 : decode cX9_part_ 28 = .ok (.iload 5, 2) := by decide +kernel
theorem dX9_part__30 : decode cX9_part_ 30 = .ok (.ifCond .le 99, 3) := by decide +kernel
theorem dX9_part__33 : decode cX9_part_ 33 = .ok (.iload_n 2, 1) := by decide +kernel
theorem dX9_part__34 : decode cX9_part_ 34 = .ok (.iload 5, 2) := by decide +kernel
theorem dX9_part__36 : decode cX9_part_ 36 = .ok (.iconst (-1), 1) := by decide +kernel
theorem dX9_part__37 : decode cX9_part_ 37 = .ok (.ixor, 1) := by decide +kernel
theorem dX9_part__38 : decode cX9_part_ 38 = .ok (.iand, 1) := by decide +kernel
theorem dX9_part__39 : decode cX9_part_ 39 = .ok (.istore 6, 2) := by decide +kernel
theorem dX9_part__41 : decode cX9_part_ 41 = .ok (.iload 5, 2) := by decide +kernel
theorem dX9_part__43 : decode cX9_part_ 43 = .ok (.iload_n 2, 1) := by decide +kernel
theorem dX9_part__44 : decode cX9_part_ 44 = .ok (.iconst (-1), 1) := by decide +kernel
theorem dX9_part__45 : decode cX9_part_ 45 = .ok (.ixor, 1) := by decide +kernel
theorem dX9_part__46 : decode cX9_part_ 46 = .ok (.iand, 1) := by decide +kernel
theorem dX9_part__47 : decode cX9_part_ 47 = .ok (.ifCond .ne 76, 3) := by decide +kernel
theorem dX9_part__50 : decode cX9_part_ 50 = .ok (.iload 5, 2) := by decide +kernel
theorem dX9_part__52 : decode cX9_part_ 52 = .ok (.invokestatic 199, 3) := by decide +kernel
theorem dX9_part__55 : decode cX9_part_ 55 = .ok (.iconst 3, 1) := by decide +kernel
theorem dX9_part__56 : decode cX9_part_ 56 = .ok (.if_icmp .gt 67, 3) := by decide +kernel
theorem dX9_part__59 : decode cX9_part_ 59 = .ok (.iload 6, 2) := by decide +kernel
theorem dX9_part__61 : decode cX9_part_ 61 = .ok (.ifCond .eq 62, 3) := by decide +kernel
theorem dX9_part__64 : decode cX9_part_ 64 = .ok (.aload_n 0, 1) := by decide +kernel
theorem dX9_part__65 : decode cX9_part_ 65 = .ok (.iload 6, 2) := by decide +kernel
theorem dX9_part__67 : decode cX9_part_ 67 = .ok (.iload 6, 2) := by decide +kernel
theorem dX9_part__69 : decode cX9_part_ 69 = .ok (.invokestatic 294, 3) := by decide +kernel
theorem dX9_part__72 : decode cX9_part_ 72 = .ok (.invokevirtual 176, 3) := by decide +kernel
theorem dX9_part__75 : decode cX9_part_ 75 = .ok (.iload 6, 2) := by decide +kernel
theorem dX9_part__77 : decode cX9_part_ 77 = .ok (.if_icmp .eq 46, 3) := by decide +kernel
theorem dX9_part__80 : decode cX9_part_ 80 = .ok (.aload_n 0, 1) := by decide +kernel
theorem dX9_part__81 : decode cX9_part_ 81 = .ok (.aload_n 0, 1) := by decide +kernel
theorem dX9_part__82 : decode cX9_part_ 82 = .ok (.getfield 32, 3) := by decide +kernel
theorem dX9_part__85 : decode cX9_part_ 85 = .ok (.iconst 0, 1) := by decide +kernel
theorem dX9_part__86 : decode cX9_part_ 86 = .ok (.iload 5, 2) := by decide +kernel
theorem dX9_part__88 : decode cX9_part_ 88 = .ok (.invokevirtual 202, 3) := by decide +kernel
theorem dX9_part__91 : decode cX9_part_ 91 = .ok (.istore 7, 2) := by decide +kernel
theorem dX9_part__93 : decode cX9_part_ 93 = .ok (.iload 7, 2) := by decide +kernel
theorem dX9_part__95 : decode cX9_part_ 95 = .ok (.iload 4, 2) := by decide +kernel
theorem dX9_part__97 : decode cX9_part_ 97 = .ok (.if_icmp .gt 8, 3) := by decide +kernel
theorem dX9_part__100 : decode cX9_part_ 100 = .ok (.iload 5, 2) := by decide +kernel
theorem dX9_part__102 : decode cX9_part_ 102 = .ok (.goto 4, 3) := by decide +kernel
theorem dX9_part__105 : decode cX9_part_ 105 = .ok (.iload_n 3, 1) := by decide +kernel
theorem dX9_part__106 : decode cX9_part_ 106 = .ok (.istore_n 3, 1) := by decide +kernel
theorem dX9_part__107 : decode cX9_part_ 107 = .ok (.iload 7, 2) := by decide +kernel
theorem dX9_part__109 : decode cX9_part_ 109 = .ok (.iload 4, 2) := by decide +kernel
theorem dX9_part__111 : decode cX9_part_ 111 = .ok (.if_icmp .ge 8, 3) := by decide +kernel
theorem dX9_part__114 : decode cX9_part_ 114 = .ok (.iload 7, 2) := by decide +kernel
theorem dX9_part__116 : decode cX9_part_ 116 = .ok (.goto 5, 3) := by decide +kernel
theorem dX9_part__119 : decode cX9_part_ 119 = .ok (.iload 4, 2) := by decide +kernel
theorem dX9_part__121 : decode cX9_part_ 121 = .ok (.istore 4, 2) := by decide +kernel
theorem dX9_part__123 : decode cX9_part_ 123 = .ok (.iinc 5 (-1), 3) := by decide +kernel
theorem dX9_part__126 : decode cX9_part_ 126 = .ok (.goto (-98), 3) := by decide +kernel
theorem dX9_part__129 : decode cX9_part_ 129 = .ok (.iload_n 3, 1) := by decide +kernel
theorem dX9_part__130 : decode cX9_part_ 130 = .ok (.bipush (-9), 2) := by decide +kernel
theorem dX9_part__132 : decode cX9_part_ 132 = .ok (.if_icmp .ne 8, 3) := by decide +kernel
theorem dX9_part__135 : decode cX9_part_ 135 = .ok (.bipush (-9), 2) := by decide +kernel
theorem dX9_part__137 : decode cX9_part_ 137 = .ok (.goto 10, 3) := by decide +kernel
theorem dX9_part__140 : decode cX9_part_ 140 = .ok (.aload_n 0, 1) := by decide +kernel
theorem dX9_part__141 : decode cX9_part_ 141 = .ok (.iload_n 3, 1) := by decide +kernel
theorem dX9_part__142 : decode cX9_part_ 142 = .ok (.iload 4, 2) := by decide +kernel
theorem dX9_part__144 : decode cX9_part_ 144 = .ok (.invokevirtual 105, 3) := by decide +kernel
theorem dX9_part__147 : decode cX9_part_ 147 = .ok (.ireturn, 1) := by decide +kernel
theorem dX9_isStolen_0 : decode cX9_isStolen 0 = .ok (.aload_n 0, 1) := by decide +kernel
theorem dX9_isStolen_1 : decode cX9_isStolen 1 = .ok (.invokevirtual 190, 3) := by decide +kernel
theorem dX9_isStolen_4 : decode cX9_isStolen 4 = .ok (.iconst 0, 1) := by decide +kernel
theorem dX9_isStolen_5 : decode cX9_isStolen 5 = .ok (.istore 5, 2) := by decide +kernel
theorem dX9_isStolen_7 : decode cX9_isStolen 7 = .ok (.iconst 0, 1) := by decide +kernel
theorem dX9_isStolen_8 : decode cX9_isStolen 8 = .ok (.istore 6, 2) := by decide +kernel
theorem dX9_isStolen_10 : decode cX9_isStolen 10 = .ok (.iload 6, 2) := by decide +kernel
theorem dX9_isStolen_12 : decode cX9_isStolen 12 = .ok (.aload_n 0, 1) := by decide +kernel
theorem dX9_isStolen_13 : decode cX9_isStolen 13 = .ok (.getfield 187, 3) := by decide +kernel
theorem dX9_isStolen_16 : decode cX9_isStolen 16 = .ok (.if_icmp .ge 49, 3) := by decide +kernel
theorem dX9_isStolen_19 : decode cX9_isStolen 19 = .ok (.iload 5, 2) := by decide +kernel
theorem dX9_isStolen_21 : decode cX9_isStolen 21 = .ok (.ifCond .ne 31, 3) := by decide +kernel
theorem dX9_isStolen_24 : decode cX9_isStolen 24 = .ok (.aload_n 0, 1) := by decide +kernel
theorem dX9_isStolen_25 : decode cX9_isStolen 25 = .ok (.aload_n 0, 1) := by decide +kernel
theorem dX9_isStolen_26 : decode cX9_isStolen 26 = .ok (.getfield 44, 3) := by decide +kernel
theorem dX9_isStolen_29 : decode cX9_isStolen 29 = .ok (.iload 6, 2) := by decide +kernel
theorem dX9_isStolen_31 : decode cX9_isStolen 31 = .ok (.iaload, 1) := by decide +kernel
theorem dX9_isStolen_32 : decode cX9_isStolen 32 = .ok (.invokevirtual 209, 3) := by decide +kernel
theorem dX9_isStolen_35 : decode cX9_isStolen 35 = .ok (.iload 4, 2) := by decide +kernel
theorem dX9_isStolen_37 : decode cX9_isStolen 37 = .ok (.if_icmp .ne 19, 3) := by decide +kernel
theorem dX9_isStolen_40 : decode cX9_isStolen 40 = .ok (.aload_n 0, 1) := by decide +kernel
theorem dX9_isStolen_41 : decode cX9_isStolen 41 = .ok (.iload_n 1, 1) := by decide +kernel
theorem dX9_isStolen_42 : decode cX9_isStolen 42 = .ok (.iload_n 2, 1) := by decide +kernel
theorem dX9_isStolen_43 : decode cX9_isStolen 43 = .ok (.iload_n 3, 1) := by decide +kernel
theorem dX9_isStolen_44 : decode cX9_isStolen 44 = .ok (.iload 6, 2) := by decide +kernel
theorem dX9_isStolen_46 : decode cX9_isStolen 46 = .ok (.invokevirtual 283, 3) := by decide +kernel
theorem dX9_isStolen_49 : decode cX9_isStolen 49 = .ok (.ifCond .eq 7, 3) := by decide +kernel
theorem dX9_isStolen_52 : decode cX9_isStolen 52 = .ok (.iconst 1, 1) := by decide +kernel
theorem dX9_isStolen_53 : decode cX9_isStolen 53 = .ok (.goto 4, 3) := by decide +kernel
theorem dX9_isStolen_56 : decode cX9_isStolen 56 = .ok (.iconst 0, 1) := by decide +kernel
theorem dX9_isStolen_57 : decode cX9_isStolen 57 = .ok (.istore 5, 2) := by decide +kernel
theorem dX9_isStolen_59 : decode cX9_isStolen 59 = .ok (.iinc 6 1, 3) := by decide +kernel
theorem dX9_isStolen_62 : decode cX9_isStolen 62 = .ok (.goto (-52), 3) := by decide +kernel
theorem dX9_isStolen_65 : decode cX9_isStolen 65 = .ok (.iload 5, 2) := by decide +kernel
theorem dX9_isStolen_67 : decode cX9_isStolen 67 = .ok (.ireturn, 1) := by decide +kernel
theorem dX9_stealOn_0 : decode cX9_stealOn 0 = .ok (.iload 5, 2) := by decide +kernel
theorem dX9_stealOn_2 : decode cX9_stealOn 2 = .ok (.iload 6, 2) := by decide +kernel
theorem dX9_stealOn_4 : decode cX9_stealOn 4 = .ok (.if_icmp .ne 13, 3) := by decide +kernel
theorem dX9_stealOn_7 : decode cX9_stealOn 7 = .ok (.aload_n 0, 1) := by decide +kernel
theorem dX9_stealOn_8 : decode cX9_stealOn 8 = .ok (.iload_n 1, 1) := by decide +kernel
theorem dX9_stealOn_9 : decode cX9_stealOn 9 = .ok (.iload_n 2, 1) := by decide +kernel
theorem dX9_stealOn_10 : decode cX9_stealOn 10 = .ok (.iload_n 3, 1) := by decide +kernel
theorem dX9_stealOn_11 : decode cX9_stealOn 11 = .ok (.iload 4, 2) := by decide +kernel
theorem dX9_stealOn_13 : decode cX9_stealOn 13 = .ok (.invokevirtual 298, 3) := by decide +kernel
theorem dX9_stealOn_16 : decode cX9_stealOn 16 = .ok (.ireturn, 1) := by decide +kernel
theorem dX9_stealOn_17 : decode cX9_stealOn 17 = .ok (.iconst 0, 1) := by decide +kernel
theorem dX9_stealOn_18 : decode cX9_stealOn 18 = .ok (.istore 7, 2) := by decide +kernel
theorem dX9_stealOn_20 : decode cX9_stealOn 20 = .ok (.iload 7, 2) := by decide +kernel
theorem dX9_stealOn_22 : decode cX9_stealOn 22 = .ok (.iconst 2, 1) := by decide +kernel
theorem dX9_stealOn_23 : decode cX9_stealOn 23 = .ok (.aload_n 0, 1) := by decide +kernel
theorem dX9_stealOn_24 : decode cX9_stealOn 24 = .ok (.getfield 155, 3) := by decide +kernel
theorem dX9_stealOn_27 : decode cX9_stealOn 27 = .ok (.imul, 1) := by decide +kernel
theorem dX9_stealOn_28 : decode cX9_stealOn 28 = .ok (.if_icmp .ge 126, 3) := by decide +kernel
theorem dX9_stealOn_31 : decode cX9_stealOn 31 = .ok (.iload 7, 2) := by decide +kernel
theorem dX9_stealOn_33 : decode cX9_stealOn 33 = .ok (.aload_n 0, 1) := by decide +kernel
theorem dX9_stealOn_34 : decode cX9_stealOn 34 = .ok (.getfield 155, 3) := by decide +kernel
theorem dX9_stealOn_37 : decode cX9_stealOn 37 = .ok (.irem, 1) := by decide +kernel
theorem dX9_stealOn_38 : decode cX9_stealOn 38 = .ok (.istore 8, 2) := by decide +kernel
theorem dX9_stealOn_40 : decode cX9_stealOn 40 = .ok (.iload 7, 2) := by decide +kernel
theorem dX9_stealOn_42 : decode cX9_stealOn 42 = .ok (.aload_n 0, 1) := by decide +kernel
theorem dX9_stealOn_43 : decode cX9_stealOn 43 = .ok (.getfield 155, 3) := by decide +kernel
theorem dX9_stealOn_46 : decode cX9_stealOn 46 = .ok (.if_icmp .ge 7, 3) := by decide +kernel
theorem dX9_stealOn_49 : decode cX9_stealOn 49 = .ok (.iconst 1, 1) := by decide +kernel
theorem dX9_stealOn_50 : decode cX9_stealOn 50 = .ok (.goto 4, 3) := by decide +kernel
theorem dX9_stealOn_53 : decode cX9_stealOn 53 = .ok (.iconst (-1), 1) := by decide +kernel
theorem dX9_stealOn_54 : decode cX9_stealOn 54 = .ok (.istore 9, 2) := by decide +kernel
theorem dX9_stealOn_56 : decode cX9_stealOn 56 = .ok (.aload_n 0, 1) := by decide +kernel
theorem dX9_stealOn_57 : decode cX9_stealOn 57 = .ok (.getfield 32, 3) := by decide +kernel
theorem dX9_stealOn_60 : decode cX9_stealOn 60 = .ok (.iload 8, 2) := by decide +kernel
theorem dX9_stealOn_62 : decode cX9_stealOn 62 = .ok (.iaload, 1) := by decide +kernel
theorem dX9_stealOn_63 : decode cX9_stealOn 63 = .ok (.iload 9, 2) := by decide +kernel
theorem dX9_stealOn_65 : decode cX9_stealOn 65 = .ok (.iadd, 1) := by decide +kernel
theorem dX9_stealOn_66 : decode cX9_stealOn 66 = .ok (.iconst 0, 1) := by decide +kernel
theorem dX9_stealOn_67 : decode cX9_stealOn 67 = .ok (.iconst 5, 1) := by decide +kernel
theorem dX9_stealOn_68 : decode cX9_stealOn 68 = .ok (.invokestatic 79, 3) := by decide +kernel
theorem dX9_stealOn_71 : decode cX9_stealOn 71 = .ok (.ifCond .eq 77, 3) := by decide +kernel
theorem dX9_stealOn_74 : decode cX9_stealOn 74 = .ok (.aload_n 0, 1) := by decide +kernel
theorem dX9_stealOn_75 : decode cX9_stealOn 75 = .ok (.getfield 59, 3) := by decide +kernel
theorem dX9_stealOn_78 : decode cX9_stealOn 78 = .ok (.iload 5, 2) := by decide +kernel
theorem dX9_stealOn_80 : decode cX9_stealOn 80 = .ok (.iload 7, 2) := by decide +kernel
theorem dX9_stealOn_82 : decode cX9_stealOn 82 = .ok (.aload_n 0, 1) := by decide +kernel
theorem dX9_stealOn_83 : decode cX9_stealOn 83 = .ok (.getfield 155, 3) := by decide +kernel
theorem dX9_stealOn_86 : decode cX9_stealOn 86 = .ok (.if_icmp .ge 8, 3) := by decide +kernel
theorem dX9_stealOn_89 : decode cX9_stealOn 89 = .ok (.iload 8, 2) := by decide +kernel
theorem dX9_stealOn_91 : decode cX9_stealOn 91 = .ok (.goto 8, 3) := by decide +kernel
theorem dX9_stealOn_94 : decode cX9_stealOn 94 = .ok (.bipush 100, 2) := by decide +kernel
theorem dX9_stealOn_96 : decode cX9_stealOn 96 = .ok (.iload 8, 2) := by decide +kernel
theorem dX9_stealOn_98 : decode cX9_stealOn 98 = .ok (.iadd, 1) := by decide +kernel
theorem dX9_stealOn_99 : decode cX9_stealOn 99 = .ok (.iastore, 1) := by decide +kernel
theorem dX9_stealOn_100 : decode cX9_stealOn 100 = .ok (.aload_n 0, 1) := by decide +kernel
theorem dX9_stealOn_101 : decode cX9_stealOn 101 = .ok (.getfield 32, 3) := by decide +kernel
theorem dX9_stealOn_104 : decode cX9_stealOn 104 = .ok (.iload 8, 2) := by decide +kernel
theorem dX9_stealOn_106 : decode cX9_stealOn 106 = .ok (.dup2, 1) := by decide +kernel
theorem dX9_stealOn_107 : decode cX9_stealOn 107 = .ok (.iaload, 1) := by decide +kernel
theorem dX9_stealOn_108 : decode cX9_stealOn 108 = .ok (.iload 9, 2) := by decide +kernel
theorem dX9_stealOn_110 : decode cX9_stealOn 110 = .ok (.iadd, 1) := by decide +kernel
theorem dX9_stealOn_111 : decode cX9_stealOn 111 = .ok (.iastore, 1) := by decide +kernel
theorem dX9_stealOn_112 : decode cX9_stealOn 112 = .ok (.aload_n 0, 1) := by decide +kernel
theorem dX9_stealOn_113 : decode cX9_stealOn 113 = .ok (.iload_n 1, 1) := by decide +kernel
theorem dX9_stealOn_114 : decode cX9_stealOn 114 = .ok (.iload_n 2, 1) := by decide +kernel
theorem dX9_stealOn_115 : decode cX9_stealOn 115 = .ok (.iload_n 3, 1) := by decide +kernel
theorem dX9_stealOn_116 : decode cX9_stealOn 116 = .ok (.iload 4, 2) := by decide +kernel
theorem dX9_stealOn_118 : decode cX9_stealOn 118 = .ok (.iload 5, 2) := by decide +kernel
theorem dX9_stealOn_120 : decode cX9_stealOn 120 = .ok (.iconst 1, 1) := by decide +kernel
theorem dX9_stealOn_121 : decode cX9_stealOn 121 = .ok (.iadd, 1) := by decide +kernel
theorem dX9_stealOn_122 : decode cX9_stealOn 122 = .ok (.iload 6, 2) := by decide +kernel
theorem dX9_stealOn_124 : decode cX9_stealOn 124 = .ok (.invokevirtual 301, 3) := by decide +kernel
theorem dX9_stealOn_127 : decode cX9_stealOn 127 = .ok (.istore 10, 2) := by decide +kernel
theorem dX9_stealOn_129 : decode cX9_stealOn 129 = .ok (.aload_n 0, 1) := by decide +kernel
theorem dX9_stealOn_130 : decode cX9_stealOn 130 = .ok (.getfield 32, 3) := by decide +kernel
theorem dX9_stealOn_133 : decode cX9_stealOn 133 = .ok (.iload 8, 2) := by decide +kernel
theorem dX9_stealOn_135 : decode cX9_stealOn 135 = .ok (.dup2, 1) := by decide +kernel
theorem dX9_stealOn_136 : decode cX9_stealOn 136 = .ok (.iaload, 1) := by decide +kernel
theorem dX9_stealOn_137 : decode cX9_stealOn 137 = .ok (.iload 9, 2) := by decide +kernel
theorem dX9_stealOn_139 : decode cX9_stealOn 139 = .ok (.isub, 1) := by decide +kernel
theorem dX9_stealOn_140 : decode cX9_stealOn 140 = .ok (.iastore, 1) := by decide +kernel
theorem dX9_stealOn_141 : decode cX9_stealOn 141 = .ok (.iload 10, 2) := by decide +kernel
theorem dX9_stealOn_143 : decode cX9_stealOn 143 = .ok (.ifCond .eq 5, 3) := by decide +kernel
theorem dX9_stealOn_146 : decode cX9_stealOn 146 = .ok (.iconst 1, 1) := by decide +kernel
theorem dX9_stealOn_147 : decode cX9_stealOn 147 = .ok (.ireturn, 1) := by decide +kernel
theorem dX9_stealOn_148 : decode cX9_stealOn 148 = .ok (.iinc 7 1, 3) := by decide +kernel
theorem dX9_stealOn_151 : decode cX9_stealOn 151 = .ok (.goto (-131), 3) := by decide +kernel
theorem dX9_stealOn_154 : decode cX9_stealOn 154 = .ok (.iconst 0, 1) := by decide +kernel
theorem dX9_stealOn_155 : decode cX9_stealOn 155 = .ok (.ireturn, 1) := by decide +kernel
theorem dX9_steal_0 : decode cX9_steal 0 = .ok (.aload_n 0, 1) := by decide +kernel
theorem dX9_steal_1 : decode cX9_steal 1 = .ok (.iload_n 1, 1) := by decide +kernel
theorem dX9_steal_2 : decode cX9_steal 2 = .ok (.invokevirtual 218, 3) := by decide +kernel
theorem dX9_steal_5 : decode cX9_steal 5 = .ok (.ifCond .eq 28, 3) := by decide +kernel
theorem dX9_steal_8 : decode cX9_steal 8 = .ok (.iload_n 2, 1) := by decide +kernel
theorem dX9_steal_9 : decode cX9_steal 9 = .ok (.invokestatic 274, 3) := by decide +kernel
theorem dX9_steal_12 : decode cX9_steal 12 = .ok (.ifCond .eq 21, 3) := by decide +kernel
theorem dX9_steal_15 : decode cX9_steal 15 = .ok (.iload 4, 2) := by decide +kernel
theorem dX9_steal_17 : decode cX9_steal 17 = .ok (.iconst 0, 1) := by decide +kernel
theorem dX9_steal_18 : decode cX9_steal 18 = .ok (.iconst 3, 1) := by decide +kernel
theorem dX9_steal_19 : decode cX9_steal 19 = .ok (.invokestatic 79, 3) := by decide +kernel
theorem dX9_steal_22 : decode cX9_steal 22 = .ok (.ifCond .eq 11, 3) := by decide +kernel
theorem dX9_steal_25 : decode cX9_steal 25 = .ok (.iload 5, 2) := by decide +kernel
theorem dX9_steal_27 : decode cX9_steal 27 = .ok (.invokestatic 83, 3) := by decide +kernel
theorem dX9_steal_30 : decode cX9_steal 30 = .ok (.ifCond .ne 7, 3) := by decide +kernel
theorem dX9_steal_33 : decode cX9_steal 33 = .ok (.iconst (-1), 1) := by decide +kernel
theorem dX9_steal_34 : decode cX9_steal 34 = .ok (.goto 8, 3) := by decide +kernel
theorem dX9_steal_37 : decode cX9_steal 37 = .ok (.aload_n 0, 1) := by decide +kernel
theorem dX9_steal_38 : decode cX9_steal 38 = .ok (.iload_n 2, 1) := by decide +kernel
theorem dX9_steal_39 : decode cX9_steal 39 = .ok (.invokevirtual 280, 3) := by decide +kernel
theorem dX9_steal_42 : decode cX9_steal 42 = .ok (.istore 6, 2) := by decide +kernel
theorem dX9_steal_44 : decode cX9_steal 44 = .ok (.iload 6, 2) := by decide +kernel
theorem dX9_steal_46 : decode cX9_steal 46 = .ok (.ifCond .ge 6, 3) := by decide +kernel
theorem dX9_steal_49 : decode cX9_steal 49 = .ok (.iload 6, 2) := by decide +kernel
theorem dX9_steal_51 : decode cX9_steal 51 = .ok (.ireturn, 1) := by decide +kernel
theorem dX9_steal_52 : decode cX9_steal 52 = .ok (.iload_n 3, 1) := by decide +kernel
theorem dX9_steal_53 : decode cX9_steal 53 = .ok (.iconst 0, 1) := by decide +kernel
theorem dX9_steal_54 : decode cX9_steal 54 = .ok (.aload_n 0, 1) := by decide +kernel
theorem dX9_steal_55 : decode cX9_steal 55 = .ok (.getfield 277, 3) := by decide +kernel
theorem dX9_steal_58 : decode cX9_steal 58 = .ok (.iconst 1, 1) := by decide +kernel
theorem dX9_steal_59 : decode cX9_steal 59 = .ok (.isub, 1) := by decide +kernel
theorem dX9_steal_60 : decode cX9_steal 60 = .ok (.invokestatic 79, 3) := by decide +kernel
theorem dX9_steal_63 : decode cX9_steal 63 = .ok (.ifCond .ne 5, 3) := by decide +kernel
theorem dX9_steal_66 : decode cX9_steal 66 = .ok (.iconst (-1), 1) := by decide +kernel
theorem dX9_steal_67 : decode cX9_steal 67 = .ok (.ireturn, 1) := by decide +kernel
theorem dX9_steal_68 : decode cX9_steal 68 = .ok (.iconst 0, 1) := by decide +kernel
theorem dX9_steal_69 : decode cX9_steal 69 = .ok (.istore 7, 2) := by decide +kernel
theorem dX9_steal_71 : decode cX9_steal 71 = .ok (.iload 7, 2) := by decide +kernel
theorem dX9_steal_73 : decode cX9_steal 73 = .ok (.iconst 4, 1) := by decide +kernel
theorem dX9_steal_74 : decode cX9_steal 74 = .ok (.if_icmp .ge 67, 3) := by decide +kernel
theorem dX9_steal_77 : decode cX9_steal 77 = .ok (.aload_n 0, 1) := by decide +kernel
theorem dX9_steal_78 : decode cX9_steal 78 = .ok (.iload_n 1, 1) := by decide +kernel
theorem dX9_steal_79 : decode cX9_steal 79 = .ok (.iload_n 2, 1) := by decide +kernel
theorem dX9_steal_80 : decode cX9_steal 80 = .ok (.iload_n 3, 1) := by decide +kernel
theorem dX9_steal_81 : decode cX9_steal 81 = .ok (.iload 4, 2) := by decide +kernel
theorem dX9_steal_83 : decode cX9_steal 83 = .ok (.iconst 0, 1) := by decide +kernel
theorem dX9_steal_84 : decode cX9_steal 84 = .ok (.iload 7, 2) := by decide +kernel
theorem dX9_steal_86 : decode cX9_steal 86 = .ok (.invokevirtual 301, 3) := by decide +kernel
theorem dX9_steal_89 : decode cX9_steal 89 = .ok (.ifCond .eq 46, 3) := by decide +kernel
theorem dX9_steal_92 : decode cX9_steal 92 = .ok (.aload_n 0, 1) := by decide +kernel
theorem dX9_steal_93 : decode cX9_steal 93 = .ok (.iload 5, 2) := by decide +kernel
theorem dX9_steal_95 : decode cX9_steal 95 = .ok (.iload 7, 2) := by decide +kernel
theorem dX9_steal_97 : decode cX9_steal 97 = .ok (.invokevirtual 305, 3) := by decide +kernel
theorem dX9_steal_100 : decode cX9_steal 100 = .ok (.pop, 1) := by decide +kernel
theorem dX9_steal_101 : decode cX9_steal 101 = .ok (.iconst 0, 1) := by decide +kernel
theorem dX9_steal_102 : decode cX9_steal 102 = .ok (.istore 8, 2) := by decide +kernel
theorem dX9_steal_104 : decode cX9_steal 104 = .ok (.iload 8, 2) := by decide +kernel
theorem dX9_steal_106 : decode cX9_steal 106 = .ok (.iload 7, 2) := by decide +kernel
theorem dX9_steal_108 : decode cX9_steal 108 = .ok (.if_icmp .ge 24, 3) := by decide +kernel
theorem dX9_steal_111 : decode cX9_steal 111 = .ok (.aload_n 0, 1) := by decide +kernel
theorem dX9_steal_112 : decode cX9_steal 112 = .ok (.iload 5, 2) := by decide +kernel
theorem dX9_steal_114 : decode cX9_steal 114 = .ok (.iload 8, 2) := by decide +kernel
theorem dX9_steal_116 : decode cX9_steal 116 = .ok (.aload_n 0, 1) := by decide +kernel
theorem dX9_steal_117 : decode cX9_steal 117 = .ok (.getfield 59, 3) := by decide +kernel
theorem dX9_steal_120 : decode cX9_steal 120 = .ok (.iload 8, 2) := by decide +kernel
theorem dX9_steal_122 : decode cX9_steal 122 = .ok (.iaload, 1) := by decide +kernel
theorem dX9_steal_123 : decode cX9_steal 123 = .ok (.invokevirtual 94, 3) := by decide +kernel
theorem dX9_steal_126 : decode cX9_steal 126 = .ok (.iinc 8 1, 3) := by decide +kernel
theorem dX9_steal_129 : decode cX9_steal 129 = .ok (.goto (-25), 3) := by decide +kernel
theorem dX9_steal_132 : decode cX9_steal 132 = .ok (.iload 7, 2) := by decide +kernel
theorem dX9_steal_134 : decode cX9_steal 134 = .ok (.ireturn, 1) := by decide +kernel
theorem dX9_steal_135 : decode cX9_steal 135 = .ok (.iinc 7 1, 3) := by decide +kernel
theorem dX9_steal_138 : decode cX9_steal 138 = .ok (.goto (-67), 3) := by decide +kernel
theorem dX9_steal_141 : decode cX9_steal 141 = .ok (.bipush (-9), 2) := by decide +kernel
theorem dX9_steal_143 : decode cX9_steal 143 = .ok (.ireturn, 1) := by decide +kernel
theorem dX9_share_0 : decode cX9_share 0 = .ok (.aload_n 0, 1) := by decide +kernel
theorem dX9_share_1 : decode cX9_share 1 = .ok (.iload_n 1, 1) := by decide +kernel
theorem dX9_share_2 : decode cX9_share 2 = .ok (.invokevirtual 246, 3) := by decide +kernel
theorem dX9_share_5 : decode cX9_share 5 = .ok (.ifCond .eq 12, 3) := by decide +kernel
theorem dX9_share_8 : decode cX9_share 8 = .ok (.iload_n 2, 1) := by decide +kernel
theorem dX9_share_9 : decode cX9_share 9 = .ok (.iconst 0, 1) := by decide +kernel
theorem dX9_share_10 : decode cX9_share 10 = .ok (.iconst 3, 1) := by decide +kernel
theorem dX9_share_11 : decode cX9_share 11 = .ok (.invokestatic 79, 3) := by decide +kernel
theorem dX9_share_14 : decode cX9_share 14 = .ok (.ifCond .ne 5, 3) := by decide +kernel
theorem dX9_share_17 : decode cX9_share 17 = .ok (.iconst (-1), 1) := by decide +kernel
theorem dX9_share_18 : decode cX9_share 18 = .ok (.ireturn, 1) := by decide +kernel
theorem dX9_share_19 : decode cX9_share 19 = .ok (.iconst 0, 1) := by decide +kernel
theorem dX9_share_20 : decode cX9_share 20 = .ok (.istore_n 3, 1) := by decide +kernel
theorem dX9_share_21 : decode cX9_share 21 = .ok (.iconst 0, 1) := by decide +kernel
theorem dX9_share_22 : decode cX9_share 22 = .ok (.istore 4, 2) := by decide +kernel
theorem dX9_share_24 : decode cX9_share 24 = .ok (.iload 4, 2) := by decide +kernel
theorem dX9_share_26 : decode cX9_share 26 = .ok (.aload_n 0, 1) := by decide +kernel
theorem dX9_share_27 : decode cX9_share 27 = .ok (.getfield 155, 3) := by decide +kernel
theorem dX9_share_30 : decode cX9_share 30 = .ok (.if_icmp .ge 53, 3) := by decide +kernel
theorem dX9_share_33 : decode cX9_share 33 = .ok (.iload_n 3, 1) := by decide +kernel
theorem dX9_share_34 : decode cX9_share 34 = .ok (.aload_n 0, 1) := by decide +kernel
theorem dX9_share_35 : decode cX9_share 35 = .ok (.getfield 44, 3) := by decide +kernel
theorem dX9_share_38 : decode cX9_share 38 = .ok (.iload_n 1, 1) := by decide +kernel
theorem dX9_share_39 : decode cX9_share 39 = .ok (.iaload, 1) := by decide +kernel
theorem dX9_share_40 : decode cX9_share 40 = .ok (.iload 4, 2) := by decide +kernel
theorem dX9_share_42 : decode cX9_share 42 = .ok (.invokestatic 170, 3) := by decide +kernel
theorem dX9_share_45 : decode cX9_share 45 = .ok (.ifCond .eq 29, 3) := by decide +kernel
theorem dX9_share_48 : decode cX9_share 48 = .ok (.aload_n 0, 1) := by decide +kernel
theorem dX9_share_49 : decode cX9_share 49 = .ok (.getfield 35, 3) := by decide +kernel
theorem dX9_share_52 : decode cX9_share 52 = .ok (.iload 4, 2) := by decide +kernel
theorem dX9_share_54 : decode cX9_share 54 = .ok (.aload_n 0, 1) := by decide +kernel
theorem dX9_share_55 : decode cX9_share 55 = .ok (.getfield 158, 3) := by decide +kernel
theorem dX9_share_58 : decode cX9_share 58 = .ok (.irem, 1) := by decide +kernel
theorem dX9_share_59 : decode cX9_share 59 = .ok (.iaload, 1) := by decide +kernel
theorem dX9_share_60 : decode cX9_share 60 = .ok (.iload_n 2, 1) := by decide +kernel
theorem dX9_share_61 : decode cX9_share 61 = .ok (.if_icmp .ne 13, 3) := by decide +kernel
theorem dX9_share_64 : decode cX9_share 64 = .ok (.aload_n 0, 1) := by decide +kernel
theorem dX9_share_65 : decode cX9_share 65 = .ok (.getfield 32, 3) := by decide +kernel
theorem dX9_share_68 : decode cX9_share 68 = .ok (.iload 4, 2) := by decide +kernel
theorem dX9_share_70 : decode cX9_share 70 = .ok (.iaload, 1) := by decide +kernel
theorem dX9_share_71 : decode cX9_share 71 = .ok (.goto 4, 3) := by decide +kernel
theorem dX9_share_74 : decode cX9_share 74 = .ok (.iconst 0, 1) := by decide +kernel
theorem dX9_share_75 : decode cX9_share 75 = .ok (.iadd, 1) := by decide +kernel
theorem dX9_share_76 : decode cX9_share 76 = .ok (.istore_n 3, 1) := by decide +kernel
theorem dX9_share_77 : decode cX9_share 77 = .ok (.iinc 4 1, 3) := by decide +kernel
theorem dX9_share_80 : decode cX9_share 80 = .ok (.goto (-56), 3) := by decide +kernel
theorem dX9_share_83 : decode cX9_share 83 = .ok (.aload_n 0, 1) := by decide +kernel
theorem dX9_share_84 : decode cX9_share 84 = .ok (.iload_n 3, 1) := by decide +kernel
theorem dX9_share_85 : decode cX9_share 85 = .ok (.i2l, 1) := by decide +kernel
theorem dX9_share_86 : decode cX9_share 86 = .ok (.aload_n 0, 1) := by decide +kernel
theorem dX9_share_87 : decode cX9_share 87 = .ok (.aload_n 0, 1) := by decide +kernel
theorem dX9_share_88 : decode cX9_share 88 = .ok (.getfield 32, 3) := by decide +kernel
theorem dX9_share_91 : decode cX9_share 91 = .ok (.iconst 0, 1) := by decide +kernel
theorem dX9_share_92 : decode cX9_share 92 = .ok (.aload_n 0, 1) := by decide +kernel
theorem dX9_share_93 : decode cX9_share 93 = .ok (.getfield 44, 3) := by decide +kernel
theorem dX9_share_96 : decode cX9_share 96 = .ok (.iload_n 1, 1) := by decide +kernel
theorem dX9_share_97 : decode cX9_share 97 = .ok (.iaload, 1) := by decide +kernel
theorem dX9_share_98 : decode cX9_share 98 = .ok (.invokevirtual 202, 3) := by decide +kernel
theorem dX9_share_101 : decode cX9_share 101 = .ok (.i2l, 1) := by decide +kernel
theorem dX9_share_102 : decode cX9_share 102 = .ok (.invokevirtual 308, 3) := by decide +kernel
theorem dX9_share_105 : decode cX9_share 105 = .ok (.ireturn, 1) := by decide +kernel
theorem dX9_heapOn_0 : decode cX9_heapOn 0 = .ok (.iload_n 2, 1) := by decide +kernel
theorem dX9_heapOn_1 : decode cX9_heapOn 1 = .ok (.aload_n 0, 1) := by decide +kernel
theorem dX9_heapOn_2 : decode cX9_heapOn 2 = .ok (.getfield 17, 3) := by decide +kernel
theorem dX9_heapOn_5 : decode cX9_heapOn 5 = .ok (.iload_n 1, 1) := by decide +kernel
theorem dX9_heapOn_6 : decode cX9_heapOn 6 = .ok (.iaload, 1) := by decide +kernel
theorem dX9_heapOn_7 : decode cX9_heapOn 7 = .ok (.if_icmp .ne 53, 3) := by decide +kernel
theorem dX9_heapOn_10 : decode cX9_heapOn 10 = .ok (.iconst 1, 1) := by decide +kernel
theorem dX9_heapOn_11 : decode cX9_heapOn 11 = .ok (.istore_n 3, 1) := by decide +kernel
theorem dX9_heapOn_12 : decode cX9_heapOn 12 = .ok (.iconst 0, 1) := by decide +kernel
theorem dX9_heapOn_13 : decode cX9_heapOn 13 = .ok (.istore 4, 2) := by decide +kernel
theorem dX9_heapOn_15 : decode cX9_heapOn 15 = .ok (.iload 4, 2) := by decide +kernel
theorem dX9_heapOn_17 : decode cX9_heapOn 17 = .ok (.aload_n 0, 1) := by decide +kernel
theorem dX9_heapOn_18 : decode cX9_heapOn 18 = .ok (.getfield 187, 3) := by decide +kernel
theorem dX9_heapOn_21 : decode cX9_heapOn 21 = .ok (.if_icmp .ge 29, 3) := by decide +kernel
theorem dX9_heapOn_24 : decode cX9_heapOn 24 = .ok (.iload_n 3, 1) := by decide +kernel
theorem dX9_heapOn_25 : decode cX9_heapOn 25 = .ok (.ifCond .eq 17, 3) := by decide +kernel
theorem dX9_heapOn_28 : decode cX9_heapOn 28 = .ok (.aload_n 0, 1) := by decide +kernel
theorem dX9_heapOn_29 : decode cX9_heapOn 29 = .ok (.getfield 62, 3) := by decide +kernel
theorem dX9_heapOn_32 : decode cX9_heapOn 32 = .ok (.iload 4, 2) := by decide +kernel
theorem dX9_heapOn_34 : decode cX9_heapOn 34 = .ok (.iaload, 1) := by decide +kernel
theorem dX9_heapOn_35 : decode cX9_heapOn 35 = .ok (.ifCond .ne 7, 3) := by decide +kernel
theorem dX9_heapOn_38 : decode cX9_heapOn 38 = .ok (.iconst 1, 1) := by decide +kernel
theorem dX9_heapOn_39 : decode cX9_heapOn 39 = .ok (.goto 4, 3) := by decide +kernel
theorem dX9_heapOn_42 : decode cX9_heapOn 42 = .ok (.iconst 0, 1) := by decide +kernel
theorem dX9_heapOn_43 : decode cX9_heapOn 43 = .ok (.istore_n 3, 1) := by decide +kernel
theorem dX9_heapOn_44 : decode cX9_heapOn 44 = .ok (.iinc 4 1, 3) := by decide +kernel
theorem dX9_heapOn_47 : decode cX9_heapOn 47 = .ok (.goto (-32), 3) := by decide +kernel
theorem dX9_heapOn_50 : decode cX9_heapOn 50 = .ok (.iload_n 3, 1) := by decide +kernel
theorem dX9_heapOn_51 : decode cX9_heapOn 51 = .ok (.ifCond .eq 7, 3) := by decide +kernel
theorem dX9_heapOn_54 : decode cX9_heapOn 54 = .ok (.lconst 1, 1) := by decide +kernel
theorem dX9_heapOn_55 : decode cX9_heapOn 55 = .ok (.goto 4, 3) := by decide +kernel
theorem dX9_heapOn_58 : decode cX9_heapOn 58 = .ok (.lconst 0, 1) := by decide +kernel
theorem dX9_heapOn_59 : decode cX9_heapOn 59 = .ok (.lreturn, 1) := by decide +kernel
theorem dX9_heapOn_60 : decode cX9_heapOn 60 = .ok (.lconst 0, 1) := by decide +kernel
theorem dX9_heapOn_61 : decode cX9_heapOn 61 = .ok (.lstore_n 3, 1) := by decide +kernel
theorem dX9_heapOn_62 : decode cX9_heapOn 62 = .ok (.iconst 0, 1) := by decide +kernel
theorem dX9_heapOn_63 : decode cX9_heapOn 63 = .ok (.istore 5, 2) := by decide +kernel
theorem dX9_heapOn_65 : decode cX9_heapOn 65 = .ok (.iload 5, 2) := by decide +kernel
theorem dX9_heapOn_67 : decode cX9_heapOn 67 = .ok (.aload_n 0, 1) := by decide +kernel
theorem dX9_heapOn_68 : decode cX9_heapOn 68 = .ok (.getfield 187, 3) := by decide +kernel
theorem dX9_heapOn_71 : decode cX9_heapOn 71 = .ok (.if_icmp .ge 68, 3) := by decide +kernel
theorem dX9_heapOn_74 : decode cX9_heapOn 74 = .ok (.aload_n 0, 1) := by decide +kernel
theorem dX9_heapOn_75 : decode cX9_heapOn 75 = .ok (.getfield 62, 3) := by decide +kernel
theorem dX9_heapOn_78 : decode cX9_heapOn 78 = .ok (.iload 5, 2) := by decide +kernel
theorem dX9_heapOn_80 : decode cX9_heapOn 80 = .ok (.iaload, 1) := by decide +kernel
theorem dX9_heapOn_81 : decode cX9_heapOn 81 = .ok (.aload_n 0, 1) := by decide +kernel
theorem dX9_heapOn_82 : decode cX9_heapOn 82 = .ok (.iload_n 1, 1) := by decide +kernel
theorem dX9_heapOn_83 : decode cX9_heapOn 83 = .ok (.iload_n 2, 1) := by decide +kernel
theorem dX9_heapOn_84 : decode cX9_heapOn 84 = .ok (.invokevirtual 101, 3) := by decide +kernel
theorem dX9_heapOn_87 : decode cX9_heapOn 87 = .ok (.if_icmp .lt 46, 3) := by decide +kernel
theorem dX9_heapOn_90 : decode cX9_heapOn 90 = .ok (.aload_n 0, 1) := by decide +kernel
theorem dX9_heapOn_91 : decode cX9_heapOn 91 = .ok (.getfield 62, 3) := by decide +kernel
theorem dX9_heapOn_94 : decode cX9_heapOn 94 = .ok (.iload 5, 2) := by decide +kernel
theorem dX9_heapOn_96 : decode cX9_heapOn 96 = .ok (.dup2, 1) := by decide +kernel
theorem dX9_heapOn_97 : decode cX9_heapOn 97 = .ok (.iaload, 1) := by decide +kernel
theorem dX9_heapOn_98 : decode cX9_heapOn 98 = .ok (.aload_n 0, 1) := by decide +kernel
theorem dX9_heapOn_99 : decode cX9_heapOn 99 = .ok (.iload_n 1, 1) := by decide +kernel
theorem dX9_heapOn_100 : decode cX9_heapOn 100 = .ok (.iload_n 2, 1) := by decide +kernel
theorem dX9_heapOn_101 : decode cX9_heapOn 101 = .ok (.invokevirtual 101, 3) := by decide +kernel
theorem dX9_heapOn_104 : decode cX9_heapOn 104 = .ok (.isub, 1) := by decide +kernel
theorem dX9_heapOn_105 : decode cX9_heapOn 105 = .ok (.iastore, 1) := by decide +kernel
theorem dX9_heapOn_106 : decode cX9_heapOn 106 = .ok (.lload_n 3, 1) := by decide +kernel
theorem dX9_heapOn_107 : decode cX9_heapOn 107 = .ok (.aload_n 0, 1) := by decide +kernel
theorem dX9_heapOn_108 : decode cX9_heapOn 108 = .ok (.iload_n 1, 1) := by decide +kernel
theorem dX9_heapOn_109 : decode cX9_heapOn 109 = .ok (.iload_n 2, 1) := by decide +kernel
theorem dX9_heapOn_110 : decode cX9_heapOn 110 = .ok (.iconst 1, 1) := by decide +kernel
theorem dX9_heapOn_111 : decode cX9_heapOn 111 = .ok (.iadd, 1) := by decide +kernel
theorem dX9_heapOn_112 : decode cX9_heapOn 112 = .ok (.invokevirtual 312, 3) := by decide +kernel
theorem dX9_heapOn_115 : decode cX9_heapOn 115 = .ok (.ladd, 1) := by decide +kernel
theorem dX9_heapOn_116 : decode cX9_heapOn 116 = .ok (.lstore_n 3, 1) := by decide +kernel
theorem dX9_heapOn_117 : decode cX9_heapOn 117 = .ok (.aload_n 0, 1) := by decide +kernel
theorem dX9_heapOn_118 : decode cX9_heapOn 118 = .ok (.getfield 62, 3) := by decide +kernel
theorem dX9_heapOn_121 : decode cX9_heapOn 121 = .ok (.iload 5, 2) := by decide +kernel
theorem dX9_heapOn_123 : decode cX9_heapOn 123 = .ok (.dup2, 1) := by decide +kernel
theorem dX9_heapOn_124 : decode cX9_heapOn 124 = .ok (.iaload, 1) := by decide +kernel
theorem dX9_heapOn_125 : decode cX9_heapOn 125 = .ok (.aload_n 0, 1) := by decide +kernel
theorem dX9_heapOn_126 : decode cX9_heapOn 126 = .ok (.iload_n 1, 1) := by decide +kernel
theorem dX9_heapOn_127 : decode cX9_heapOn 127 = .ok (.iload_n 2, 1) := by decide +kernel
theorem dX9_heapOn_128 : decode cX9_heapOn 128 = .ok (.invokevirtual 101, 3) := by decide +kernel
theorem dX9_heapOn_131 : decode cX9_heapOn 131 = .ok (.iadd, 1) := by decide +kernel
theorem dX9_heapOn_132 : decode cX9_heapOn 132 = .ok (.iastore, 1) := by decide +kernel
theorem dX9_heapOn_133 : decode cX9_heapOn 133 = .ok (.iinc 5 1, 3) := by decide +kernel
theorem dX9_heapOn_136 : decode cX9_heapOn 136 = .ok (.goto (-71), 3) := by decide +kernel
theorem dX9_heapOn_139 : decode cX9_heapOn 139 = .ok (.lload_n 3, 1) := by decide +kernel
theorem dX9_heapOn_140 : decode cX9_heapOn 140 = .ok (.lreturn, 1) := by decide +kernel
theorem dX9_heaps_0 : decode cX9_heaps 0 = .ok (.aload_n 0, 1) := by decide +kernel
theorem dX9_heaps_1 : decode cX9_heaps 1 = .ok (.iload_n 1, 1) := by decide +kernel
theorem dX9_heaps_2 : decode cX9_heaps 2 = .ok (.invokevirtual 98, 3) := by decide +kernel
theorem dX9_heaps_5 : decode cX9_heaps 5 = .ok (.istore_n 2, 1) := by decide +kernel
theorem dX9_heaps_6 : decode cX9_heaps 6 = .ok (.iload_n 2, 1) := by decide +kernel
theorem dX9_heaps_7 : decode cX9_heaps 7 = .ok (.ifCond .ge 5, 3) := by decide +kernel
theorem dX9_heaps_10 : decode cX9_heaps 10 = .ok (.iload_n 2, 1) := by decide +kernel
theorem dX9_heaps_11 : decode cX9_heaps 11 = .ok (.ireturn, 1) := by decide +kernel
theorem dX9_heaps_12 : decode cX9_heaps 12 = .ok (.aload_n 0, 1) := by decide +kernel
theorem dX9_heaps_13 : decode cX9_heaps 13 = .ok (.getfield 17, 3) := by decide +kernel
theorem dX9_heaps_16 : decode cX9_heaps 16 = .ok (.iload_n 1, 1) := by decide +kernel
theorem dX9_heaps_17 : decode cX9_heaps 17 = .ok (.iaload, 1) := by decide +kernel
theorem dX9_heaps_18 : decode cX9_heaps 18 = .ok (.iconst 1, 1) := by decide +kernel
theorem dX9_heaps_19 : decode cX9_heaps 19 = .ok (.bipush 6, 2) := by decide +kernel
theorem dX9_heaps_21 : decode cX9_heaps 21 = .ok (.invokestatic 79, 3) := by decide +kernel
theorem dX9_heaps_24 : decode cX9_heaps 24 = .ok (.ifCond .ne 9, 3) := by decide +kernel
theorem dX9_heaps_27 : decode cX9_heaps 27 = .ok (.aload_n 0, 1) := by decide +kernel
theorem dX9_heaps_28 : decode cX9_heaps 28 = .ok (.iconst 5, 1) := by decide +kernel
theorem dX9_heaps_29 : decode cX9_heaps 29 = .ok (.invokevirtual 87, 3) := by decide +kernel
theorem dX9_heaps_32 : decode cX9_heaps 32 = .ok (.ireturn, 1) := by decide +kernel
theorem dX9_heaps_33 : decode cX9_heaps 33 = .ok (.iconst 0, 1) := by decide +kernel
theorem dX9_heaps_34 : decode cX9_heaps 34 = .ok (.istore_n 3, 1) := by decide +kernel
theorem dX9_heaps_35 : decode cX9_heaps 35 = .ok (.iload_n 3, 1) := by decide +kernel
theorem dX9_heaps_36 : decode cX9_heaps 36 = .ok (.aload_n 0, 1) := by decide +kernel
theorem dX9_heaps_37 : decode cX9_heaps 37 = .ok (.getfield 17, 3) := by decide +kernel
theorem dX9_heaps_40 : decode cX9_heaps 40 = .ok (.iload_n 1, 1) := by decide +kernel
theorem dX9_heaps_41 : decode cX9_heaps 41 = .ok (.iaload, 1) := by decide +kernel
theorem dX9_heaps_42 : decode cX9_heaps 42 = .ok (.if_icmp .ge 30, 3) := by decide +kernel
theorem dX9_heaps_45 : decode cX9_heaps 45 = .ok (.aload_n 0, 1) := by decide +kernel
theorem dX9_heaps_46 : decode cX9_heaps 46 = .ok (.iload_n 1, 1) := by decide +kernel
theorem dX9_heaps_47 : decode cX9_heaps 47 = .ok (.iload_n 3, 1) := by decide +kernel
theorem dX9_heaps_48 : decode cX9_heaps 48 = .ok (.invokevirtual 101, 3) := by decide +kernel
theorem dX9_heaps_51 : decode cX9_heaps 51 = .ok (.iconst 1, 1) := by decide +kernel
theorem dX9_heaps_52 : decode cX9_heaps 52 = .ok (.bipush 80, 2) := by decide +kernel
theorem dX9_heaps_54 : decode cX9_heaps 54 = .ok (.invokestatic 79, 3) := by decide +kernel
theorem dX9_heaps_57 : decode cX9_heaps 57 = .ok (.ifCond .ne 9, 3) := by decide +kernel
theorem dX9_heaps_60 : decode cX9_heaps 60 = .ok (.aload_n 0, 1) := by decide +kernel
theorem dX9_heaps_61 : decode cX9_heaps 61 = .ok (.iconst 3, 1) := by decide +kernel
theorem dX9_heaps_62 : decode cX9_heaps 62 = .ok (.invokevirtual 87, 3) := by decide +kernel
theorem dX9_heaps_65 : decode cX9_heaps 65 = .ok (.ireturn, 1) := by decide +kernel
theorem dX9_heaps_66 : decode cX9_heaps 66 = .ok (.iinc 3 1, 3) := by decide +kernel
theorem dX9_heaps_69 : decode cX9_heaps 69 = .ok (.goto (-34), 3) := by decide +kernel
theorem dX9_heaps_72 : decode cX9_heaps 72 = .ok (.aload_n 0, 1) := by decide +kernel
theorem dX9_heaps_73 : decode cX9_heaps 73 = .ok (.invokevirtual 190, 3) := by decide +kernel
theorem dX9_heaps_76 : decode cX9_heaps 76 = .ok (.iconst 0, 1) := by decide +kernel
theorem dX9_heaps_77 : decode cX9_heaps 77 = .ok (.istore_n 3, 1) := by decide +kernel
theorem dX9_heaps_78 : decode cX9_heaps 78 = .ok (.iload_n 3, 1) := by decide +kernel
theorem dX9_heaps_79 : decode cX9_heaps 79 = .ok (.aload_n 0, 1) := by decide +kernel
theorem dX9_heaps_80 : decode cX9_heaps 80 = .ok (.getfield 187, 3) := by decide +kernel
theorem dX9_heaps_83 : decode cX9_heaps 83 = .ok (.if_icmp .ge 30, 3) := by decide +kernel
theorem dX9_heaps_86 : decode cX9_heaps 86 = .ok (.aload_n 0, 1) := by decide +kernel
theorem dX9_heaps_87 : decode cX9_heaps 87 = .ok (.getfield 62, 3) := by decide +kernel
theorem dX9_heaps_90 : decode cX9_heaps 90 = .ok (.iload_n 3, 1) := by decide +kernel
theorem dX9_heaps_91 : decode cX9_heaps 91 = .ok (.aload_n 0, 1) := by decide +kernel
theorem dX9_heaps_92 : decode cX9_heaps 92 = .ok (.aload_n 0, 1) := by decide +kernel
theorem dX9_heaps_93 : decode cX9_heaps 93 = .ok (.getfield 32, 3) := by decide +kernel
theorem dX9_heaps_96 : decode cX9_heaps 96 = .ok (.iconst 0, 1) := by decide +kernel
theorem dX9_heaps_97 : decode cX9_heaps 97 = .ok (.aload_n 0, 1) := by decide +kernel
theorem dX9_heaps_98 : decode cX9_heaps 98 = .ok (.getfield 44, 3) := by decide +kernel
theorem dX9_heaps_101 : decode cX9_heaps 101 = .ok (.iload_n 3, 1) := by decide +kernel
theorem dX9_heaps_102 : decode cX9_heaps 102 = .ok (.iaload, 1) := by decide +kernel
theorem dX9_heaps_103 : decode cX9_heaps 103 = .ok (.invokevirtual 202, 3) := by decide +kernel
theorem dX9_heaps_106 : decode cX9_heaps 106 = .ok (.iastore, 1) := by decide +kernel
theorem dX9_heaps_107 : decode cX9_heaps 107 = .ok (.iinc 3 1, 3) := by decide +kernel
theorem dX9_heaps_110 : decode cX9_heaps 110 = .ok (.goto (-32), 3) := by decide +kernel
theorem dX9_heaps_113 : decode cX9_heaps 113 = .ok (.aload_n 0, 1) := by decide +kernel
theorem dX9_heaps_114 : decode cX9_heaps 114 = .ok (.aload_n 0, 1) := by decide +kernel
theorem dX9_heaps_115 : decode cX9_heaps 115 = .ok (.iload_n 1, 1) := by decide +kernel
theorem dX9_heaps_116 : decode cX9_heaps 116 = .ok (.iconst 0, 1) := by decide +kernel
theorem dX9_heaps_117 : decode cX9_heaps 117 = .ok (.invokevirtual 312, 3) := by decide +kernel
theorem dX9_heaps_120 : decode cX9_heaps 120 = .ok (.lconst 1, 1) := by decide +kernel
theorem dX9_heaps_121 : decode cX9_heaps 121 = .ok (.invokevirtual 308, 3) := by decide +kernel
theorem dX9_heaps_124 : decode cX9_heaps 124 = .ok (.ireturn, 1) := by decide +kernel
theorem dX9_askedWitnesses_0 : decode cX9_askedWitnesses 0 = .ok (.aload_n 0, 1) := by decide +kernel
theorem dX9_askedWitnesses_1 : decode cX9_askedWitnesses 1 = .ok (.iload_n 1, 1) := by decide +kernel
theorem dX9_askedWitnesses_2 : decode cX9_askedWitnesses 2 = .ok (.invokevirtual 98, 3) := by decide +kernel
theorem dX9_askedWitnesses_5 : decode cX9_askedWitnesses 5 = .ok (.istore_n 2, 1) := by decide +kernel
theorem dX9_askedWitnesses_6 : decode cX9_askedWitnesses 6 = .ok (.iload_n 2, 1) := by decide +kernel
theorem dX9_askedWitnesses_7 : decode cX9_askedWitnesses 7 = .ok (.ifCond .ge 5, 3) := by decide +kernel
theorem dX9_askedWitnesses_10 : decode cX9_askedWitnesses 10 = .ok (.iload_n 2, 1) := by decide +kernel
theorem dX9_askedWitnesses_11 : decode cX9_askedWitnesses 11 = .ok (.ireturn, 1) := by decide +kernel
theorem dX9_askedWitnesses_12 : decode cX9_askedWitnesses 12 = .ok (.aload_n 0, 1) := by decide +kernel
theorem dX9_askedWitnesses_13 : decode cX9_askedWitnesses 13 = .ok (.getfield 17, 3) := by decide +kernel
theorem dX9_askedWitnesses_16 : decode cX9_askedWitnesses 16 = .ok (.iload_n 1, 1) := by decide +kernel
theorem dX9_askedWitnesses_17 : decode cX9_askedWitnesses 17 = .ok (.iaload, 1) := by decide +kernel
theorem dX9_askedWitnesses_18 : decode cX9_askedWitnesses 18 = .ok (.iconst 3, 1) := by decide +kernel
theorem dX9_askedWitnesses_19 : decode cX9_askedWitnesses 19 = .ok (.irem, 1) := by decide +kernel
theorem dX9_askedWitnesses_20 : decode cX9_askedWitnesses 20 = .ok (.ifCond .eq 9, 3) := by decide +kernel
theorem dX9_askedWitnesses_23 : decode cX9_askedWitnesses 23 = .ok (.aload_n 0, 1) := by decide +kernel
theorem dX9_askedWitnesses_24 : decode cX9_askedWitnesses 24 = .ok (.iconst 5, 1) := by decide +kernel
theorem dX9_askedWitnesses_25 : decode cX9_askedWitnesses 25 = .ok (.invokevirtual 87, 3) := by decide +kernel
theorem dX9_askedWitnesses_28 : decode cX9_askedWitnesses 28 = .ok (.ireturn, 1) := by decide +kernel
theorem dX9_askedWitnesses_29 : decode cX9_askedWitnesses 29 = .ok (.iconst 0, 1) := by decide +kernel
theorem dX9_askedWitnesses_30 : decode cX9_askedWitnesses 30 = .ok (.istore_n 3, 1) := by decide +kernel
theorem dX9_askedWitnesses_31 : decode cX9_askedWitnesses 31 = .ok (.iload_n 3, 1) := by decide +kernel
theorem dX9_askedWitnesses_32 : decode cX9_askedWitnesses 32 = .ok (.aload_n 0, 1) := by decide +kernel
theorem dX9_askedWitnesses_33 : decode cX9_askedWitnesses 33 = .ok (.getfield 17, 3) := by decide +kernel
theorem dX9_askedWitnesses_36 : decode cX9_askedWitnesses 36 = .ok (.iload_n 1, 1) := by decide +kernel
theorem dX9_askedWitnesses_37 : decode cX9_askedWitnesses 37 = .ok (.iaload, 1) := by decide +kernel
theorem dX9_askedWitnesses_38 : decode cX9_askedWitnesses 38 = .ok (.if_icmp .ge 60, 3) := by decide +kernel
theorem dX9_askedWitnesses_41 : decode cX9_askedWitnesses 41 = .ok (.aload_n 0, 1) := by decide +kernel
theorem dX9_askedWitnesses_42 : decode cX9_askedWitnesses 42 = .ok (.aload_n 0, 1) := by decide +kernel
theorem dX9_askedWitnesses_43 : decode cX9_askedWitnesses 43 = .ok (.iload_n 1, 1) := by decide +kernel
theorem dX9_askedWitnesses_44 : decode cX9_askedWitnesses 44 = .ok (.iload_n 3, 1) := by decide +kernel
theorem dX9_askedWitnesses_45 : decode cX9_askedWitnesses 45 = .ok (.invokevirtual 101, 3) := by decide +kernel
theorem dX9_askedWitnesses_48 : decode cX9_askedWitnesses 48 = .ok (.invokevirtual 212, 3) := by decide +kernel
theorem dX9_askedWitnesses_51 : decode cX9_askedWitnesses 51 = .ok (.ifCond .eq 35, 3) := by decide +kernel
theorem dX9_askedWitnesses_54 : decode cX9_askedWitnesses 54 = .ok (.aload_n 0, 1) := by decide +kernel
theorem dX9_askedWitnesses_55 : decode cX9_askedWitnesses 55 = .ok (.iload_n 1, 1) := by decide +kernel
theorem dX9_askedWitnesses_56 : decode cX9_askedWitnesses 56 = .ok (.iload_n 3, 1) := by decide +kernel
theorem dX9_askedWitnesses_57 : decode cX9_askedWitnesses 57 = .ok (.iconst 1, 1) := by decide +kernel
theorem dX9_askedWitnesses_58 : decode cX9_askedWitnesses 58 = .ok (.iadd, 1) := by decide +kernel
theorem dX9_askedWitnesses_59 : decode cX9_askedWitnesses 59 = .ok (.invokevirtual 101, 3) := by decide +kernel
theorem dX9_askedWitnesses_62 : decode cX9_askedWitnesses 62 = .ok (.iconst 0, 1) := by decide +kernel
theorem dX9_askedWitnesses_63 : decode cX9_askedWitnesses 63 = .ok (.iconst 5, 1) := by decide +kernel
theorem dX9_askedWitnesses_64 : decode cX9_askedWitnesses 64 = .ok (.invokestatic 79, 3) := by decide +kernel
theorem dX9_askedWitnesses_67 : decode cX9_askedWitnesses 67 = .ok (.ifCond .eq 19, 3) := by decide +kernel
theorem dX9_askedWitnesses_70 : decode cX9_askedWitnesses 70 = .ok (.aload_n 0, 1) := by decide +kernel
theorem dX9_askedWitnesses_71 : decode cX9_askedWitnesses 71 = .ok (.iload_n 1, 1) := by decide +kernel
theorem dX9_askedWitnesses_72 : decode cX9_askedWitnesses 72 = .ok (.iload_n 3, 1) := by decide +kernel
theorem dX9_askedWitnesses_73 : decode cX9_askedWitnesses 73 = .ok (.iconst 2, 1) := by decide +kernel
theorem dX9_askedWitnesses_74 : decode cX9_askedWitnesses 74 = .ok (.iadd, 1) := by decide +kernel
theorem dX9_askedWitnesses_75 : decode cX9_askedWitnesses 75 = .ok (.invokevirtual 101, 3) := by decide +kernel
theorem dX9_askedWitnesses_78 : decode cX9_askedWitnesses 78 = .ok (.iconst 0, 1) := by decide +kernel
theorem dX9_askedWitnesses_79 : decode cX9_askedWitnesses 79 = .ok (.iconst 2, 1) := by decide +kernel
theorem dX9_askedWitnesses_80 : decode cX9_askedWitnesses 80 = .ok (.invokestatic 79, 3) := by decide +kernel
theorem dX9_askedWitnesses_83 : decode cX9_askedWitnesses 83 = .ok (.ifCond .ne 9, 3) := by decide +kernel
theorem dX9_askedWitnesses_86 : decode cX9_askedWitnesses 86 = .ok (.aload_n 0, 1) := by decide +kernel
theorem dX9_askedWitnesses_87 : decode cX9_askedWitnesses 87 = .ok (.iconst 3, 1) := by decide +kernel
theorem dX9_askedWitnesses_88 : decode cX9_askedWitnesses 88 = .ok (.invokevirtual 87, 3) := by decide +kernel
theorem dX9_askedWitnesses_91 : decode cX9_askedWitnesses 91 = .ok (.ireturn, 1) := by decide +kernel
theorem dX9_askedWitnesses_92 : decode cX9_askedWitnesses 92 = .ok (.iinc 3 3, 3) := by decide +kernel
theorem dX9_askedWitnesses_95 : decode cX9_askedWitnesses 95 = .ok (.goto (-64), 3) := by decide +kernel
theorem dX9_askedWitnesses_98 : decode cX9_askedWitnesses 98 = .ok (.iconst 0, 1) := by decide +kernel
theorem dX9_askedWitnesses_99 : decode cX9_askedWitnesses 99 = .ok (.ireturn, 1) := by decide +kernel
theorem dX9_doesLie_0 : decode cX9_doesLie 0 = .ok (.aload_n 0, 1) := by decide +kernel
theorem dX9_doesLie_1 : decode cX9_doesLie 1 = .ok (.iload_n 1, 1) := by decide +kernel
theorem dX9_doesLie_2 : decode cX9_doesLie 2 = .ok (.iload_n 2, 1) := by decide +kernel
theorem dX9_doesLie_3 : decode cX9_doesLie 3 = .ok (.iconst 1, 1) := by decide +kernel
theorem dX9_doesLie_4 : decode cX9_doesLie 4 = .ok (.iadd, 1) := by decide +kernel
theorem dX9_doesLie_5 : decode cX9_doesLie 5 = .ok (.invokevirtual 101, 3) := by decide +kernel
theorem dX9_doesLie_8 : decode cX9_doesLie 8 = .ok (.istore 4, 2) := by decide +kernel
theorem dX9_doesLie_10 : decode cX9_doesLie 10 = .ok (.aload_n 0, 1) := by decide +kernel
theorem dX9_doesLie_11 : decode cX9_doesLie 11 = .ok (.iload_n 1, 1) := by decide +kernel
theorem dX9_doesLie_12 : decode cX9_doesLie 12 = .ok (.iload_n 2, 1) := by decide +kernel
theorem dX9_doesLie_13 : decode cX9_doesLie 13 = .ok (.iconst 2, 1) := by decide +kernel
theorem dX9_doesLie_14 : decode cX9_doesLie 14 = .ok (.iadd, 1) := by decide +kernel
theorem dX9_doesLie_15 : decode cX9_doesLie 15 = .ok (.invokevirtual 101, 3) := by decide +kernel
theorem dX9_doesLie_18 : decode cX9_doesLie 18 = .ok (.istore 5, 2) := by decide +kernel
theorem dX9_doesLie_20 : decode cX9_doesLie 20 = .ok (.iload 5, 2) := by decide +kernel
theorem dX9_doesLie_22 : decode cX9_doesLie 22 = .ok (.ifCond .ne 17, 3) := by decide +kernel
theorem dX9_doesLie_25 : decode cX9_doesLie 25 = .ok (.iload_n 3, 1) := by decide +kernel
theorem dX9_doesLie_26 : decode cX9_doesLie 26 = .ok (.iload 4, 2) := by decide +kernel
theorem dX9_doesLie_28 : decode cX9_doesLie 28 = .ok (.if_icmp .eq 7, 3) := by decide +kernel
theorem dX9_doesLie_31 : decode cX9_doesLie 31 = .ok (.iconst 1, 1) := by decide +kernel
theorem dX9_doesLie_32 : decode cX9_doesLie 32 = .ok (.goto 38, 3) := by decide +kernel
theorem dX9_doesLie_35 : decode cX9_doesLie 35 = .ok (.iconst 0, 1) := by decide +kernel
theorem dX9_doesLie_36 : decode cX9_doesLie 36 = .ok (.goto 34, 3) := by decide +kernel
theorem dX9_doesLie_39 : decode cX9_doesLie 39 = .ok (.iload 5, 2) := by decide +kernel
theorem dX9_doesLie_41 : decode cX9_doesLie 41 = .ok (.iconst 1, 1) := by decide +kernel
theorem dX9_doesLie_42 : decode cX9_doesLie 42 = .ok (.if_icmp .ne 17, 3) := by decide +kernel
theorem dX9_doesLie_45 : decode cX9_doesLie 45 = .ok (.iload_n 3, 1) := by decide +kernel
theorem dX9_doesLie_46 : decode cX9_doesLie 46 = .ok (.iload 4, 2) := by decide +kernel
theorem dX9_doesLie_48 : decode cX9_doesLie 48 = .ok (.if_icmp .ge 7, 3) := by decide +kernel
theorem dX9_doesLie_51 : decode cX9_doesLie 51 = .ok (.iconst 1, 1) := by decide +kernel
theorem dX9_doesLie_52 : decode cX9_doesLie 52 = .ok (.goto 18, 3) := by decide +kernel
theorem dX9_doesLie_55 : decode cX9_doesLie 55 = .ok (.iconst 0, 1) := by decide +kernel
theorem dX9_doesLie_56 : decode cX9_doesLie 56 = .ok (.goto 14, 3) := by decide +kernel
theorem dX9_doesLie_59 : decode cX9_doesLie 59 = .ok (.iload_n 3, 1) := by decide +kernel
theorem dX9_doesLie_60 : decode cX9_doesLie 60 = .ok (.iload 4, 2) := by decide +kernel
theorem dX9_doesLie_62 : decode cX9_doesLie 62 = .ok (.if_icmp .le 7, 3) := by decide +kernel
theorem dX9_doesLie_65 : decode cX9_doesLie 65 = .ok (.iconst 1, 1) := by decide +kernel
theorem dX9_doesLie_66 : decode cX9_doesLie 66 = .ok (.goto 4, 3) := by decide +kernel
theorem dX9_doesLie_69 : decode cX9_doesLie 69 = .ok (.iconst 0, 1) := by decide +kernel
theorem dX9_doesLie_70 : decode cX9_doesLie 70 = .ok (.ireturn, 1) := by decide +kernel
theorem dX9_liesBy_0 : decode cX9_liesBy 0 = .ok (.iconst 0, 1) := by decide +kernel
theorem dX9_liesBy_1 : decode cX9_liesBy 1 = .ok (.istore 4, 2) := by decide +kernel
theorem dX9_liesBy_3 : decode cX9_liesBy 3 = .ok (.iconst 0, 1) := by decide +kernel
theorem dX9_liesBy_4 : decode cX9_liesBy 4 = .ok (.istore 5, 2) := by decide +kernel
theorem dX9_liesBy_6 : decode cX9_liesBy 6 = .ok (.iload 5, 2) := by decide +kernel
theorem dX9_liesBy_8 : decode cX9_liesBy 8 = .ok (.aload_n 0, 1) := by decide +kernel
theorem dX9_liesBy_9 : decode cX9_liesBy 9 = .ok (.getfield 17, 3) := by decide +kernel
theorem dX9_liesBy_12 : decode cX9_liesBy 12 = .ok (.iload_n 1, 1) := by decide +kernel
theorem dX9_liesBy_13 : decode cX9_liesBy 13 = .ok (.iaload, 1) := by decide +kernel
theorem dX9_liesBy_14 : decode cX9_liesBy 14 = .ok (.if_icmp .ge 40, 3) := by decide +kernel
theorem dX9_liesBy_17 : decode cX9_liesBy 17 = .ok (.iload 4, 2) := by decide +kernel
theorem dX9_liesBy_19 : decode cX9_liesBy 19 = .ok (.aload_n 0, 1) := by decide +kernel
theorem dX9_liesBy_20 : decode cX9_liesBy 20 = .ok (.iload_n 1, 1) := by decide +kernel
theorem dX9_liesBy_21 : decode cX9_liesBy 21 = .ok (.iload 5, 2) := by decide +kernel
theorem dX9_liesBy_23 : decode cX9_liesBy 23 = .ok (.aload_n 2, 1) := by decide +kernel
theorem dX9_liesBy_24 : decode cX9_liesBy 24 = .ok (.iload_n 3, 1) := by decide +kernel
theorem dX9_liesBy_25 : decode cX9_liesBy 25 = .ok (.aload_n 0, 1) := by decide +kernel
theorem dX9_liesBy_26 : decode cX9_liesBy 26 = .ok (.iload_n 1, 1) := by decide +kernel
theorem dX9_liesBy_27 : decode cX9_liesBy 27 = .ok (.iload 5, 2) := by decide +kernel
theorem dX9_liesBy_29 : decode cX9_liesBy 29 = .ok (.invokevirtual 101, 3) := by decide +kernel
theorem dX9_liesBy_32 : decode cX9_liesBy 32 = .ok (.iadd, 1) := by decide +kernel
theorem dX9_liesBy_33 : decode cX9_liesBy 33 = .ok (.iaload, 1) := by decide +kernel
theorem dX9_liesBy_34 : decode cX9_liesBy 34 = .ok (.invokevirtual 316, 3) := by decide +kernel
theorem dX9_liesBy_37 : decode cX9_liesBy 37 = .ok (.ifCond .eq 7, 3) := by decide +kernel
theorem dX9_liesBy_40 : decode cX9_liesBy 40 = .ok (.iconst 1, 1) := by decide +kernel
theorem dX9_liesBy_41 : decode cX9_liesBy 41 = .ok (.goto 4, 3) := by decide +kernel
theorem dX9_liesBy_44 : decode cX9_liesBy 44 = .ok (.iconst 0, 1) := by decide +kernel
theorem dX9_liesBy_45 : decode cX9_liesBy 45 = .ok (.iadd, 1) := by decide +kernel
theorem dX9_liesBy_46 : decode cX9_liesBy 46 = .ok (.istore 4, 2) := by decide +kernel
theorem dX9_liesBy_48 : decode cX9_liesBy 48 = .ok (.iinc 5 3, 3) := by decide +kernel
theorem dX9_liesBy_51 : decode cX9_liesBy 51 = .ok (.goto (-45), 3) := by decide +kernel
theorem dX9_liesBy_54 : decode cX9_liesBy 54 = .ok (.iload 4, 2) := by decide +kernel
theorem dX9_liesBy_56 : decode cX9_liesBy 56 = .ok (.ireturn, 1) := by decide +kernel
theorem dX9_lies_0 : decode cX9_lies 0 = .ok (.aload_n 0, 1) := by decide +kernel
theorem dX9_lies_1 : decode cX9_lies 1 = .ok (.iload_n 1, 1) := by decide +kernel
theorem dX9_lies_2 : decode cX9_lies 2 = .ok (.invokevirtual 319, 3) := by decide +kernel
theorem dX9_lies_5 : decode cX9_lies 5 = .ok (.istore_n 2, 1) := by decide +kernel
theorem dX9_lies_6 : decode cX9_lies 6 = .ok (.iload_n 2, 1) := by decide +kernel
theorem dX9_lies_7 : decode cX9_lies 7 = .ok (.ifCond .ge 5, 3) := by decide +kernel
theorem dX9_lies_10 : decode cX9_lies 10 = .ok (.iload_n 2, 1) := by decide +kernel
theorem dX9_lies_11 : decode cX9_lies 11 = .ok (.ireturn, 1) := by decide +kernel
theorem dX9_lies_12 : decode cX9_lies 12 = .ok (.bipush (-9), 2) := by decide +kernel
theorem dX9_lies_14 : decode cX9_lies 14 = .ok (.istore_n 3, 1) := by decide +kernel
theorem dX9_lies_15 : decode cX9_lies 15 = .ok (.aload_n 0, 1) := by decide +kernel
theorem dX9_lies_16 : decode cX9_lies 16 = .ok (.getfield 17, 3) := by decide +kernel
theorem dX9_lies_19 : decode cX9_lies 19 = .ok (.iload_n 1, 1) := by decide +kernel
theorem dX9_lies_20 : decode cX9_lies 20 = .ok (.iaload, 1) := by decide +kernel
theorem dX9_lies_21 : decode cX9_lies 21 = .ok (.iconst 3, 1) := by decide +kernel
theorem dX9_lies_22 : decode cX9_lies 22 = .ok (.isub, 1) := by decide +kernel
theorem dX9_lies_23 : decode cX9_lies 23 = .ok (.istore 4, 2) := by decide +kernel
theorem dX9_lies_25 : decode cX9_lies 25 = .ok (.iload 4, 2) := by decide +kernel
theorem dX9_lies_27 : decode cX9_lies 27 = .ok (.ifCond .lt 40, 3) := by decide +kernel
theorem dX9_lies_30 : decode cX9_lies 30 = .ok (.aload_n 0, 1) := by decide +kernel
theorem dX9_lies_31 : decode cX9_lies 31 = .ok (.iload_n 1, 1) := by decide +kernel
theorem dX9_lies_32 : decode cX9_lies 32 = .ok (.iload 4, 2) := by decide +kernel
theorem dX9_lies_34 : decode cX9_lies 34 = .ok (.aload_n 0, 1) := by decide +kernel
theorem dX9_lies_35 : decode cX9_lies 35 = .ok (.getfield 32, 3) := by decide +kernel
theorem dX9_lies_38 : decode cX9_lies 38 = .ok (.aload_n 0, 1) := by decide +kernel
theorem dX9_lies_39 : decode cX9_lies 39 = .ok (.iload_n 1, 1) := by decide +kernel
theorem dX9_lies_40 : decode cX9_lies 40 = .ok (.iload 4, 2) := by decide +kernel
theorem dX9_lies_42 : decode cX9_lies 42 = .ok (.invokevirtual 101, 3) := by decide +kernel
theorem dX9_lies_45 : decode cX9_lies 45 = .ok (.iaload, 1) := by decide +kernel
theorem dX9_lies_46 : decode cX9_lies 46 = .ok (.invokevirtual 316, 3) := by decide +kernel
theorem dX9_lies_49 : decode cX9_lies 49 = .ok (.ifCond .eq 10, 3) := by decide +kernel
theorem dX9_lies_52 : decode cX9_lies 52 = .ok (.iload 4, 2) := by decide +kernel
theorem dX9_lies_54 : decode cX9_lies 54 = .ok (.iconst 3, 1) := by decide +kernel
theorem dX9_lies_55 : decode cX9_lies 55 = .ok (.idiv, 1) := by decide +kernel
theorem dX9_lies_56 : decode cX9_lies 56 = .ok (.goto 4, 3) := by decide +kernel
theorem dX9_lies_59 : decode cX9_lies 59 = .ok (.iload_n 3, 1) := by decide +kernel
theorem dX9_lies_60 : decode cX9_lies 60 = .ok (.istore_n 3, 1) := by decide +kernel
theorem dX9_lies_61 : decode cX9_lies 61 = .ok (.iinc 4 (-3), 3) := by decide +kernel
theorem dX9_lies_64 : decode cX9_lies 64 = .ok (.goto (-39), 3) := by decide +kernel
theorem dX9_lies_67 : decode cX9_lies 67 = .ok (.aload_n 0, 1) := by decide +kernel
theorem dX9_lies_68 : decode cX9_lies 68 = .ok (.iload_n 3, 1) := by decide +kernel
theorem dX9_lies_69 : decode cX9_lies 69 = .ok (.aload_n 0, 1) := by decide +kernel
theorem dX9_lies_70 : decode cX9_lies 70 = .ok (.iload_n 1, 1) := by decide +kernel
theorem dX9_lies_71 : decode cX9_lies 71 = .ok (.aload_n 0, 1) := by decide +kernel
theorem dX9_lies_72 : decode cX9_lies 72 = .ok (.getfield 32, 3) := by decide +kernel
theorem dX9_lies_75 : decode cX9_lies 75 = .ok (.iconst 0, 1) := by decide +kernel
theorem dX9_lies_76 : decode cX9_lies 76 = .ok (.invokevirtual 322, 3) := by decide +kernel
theorem dX9_lies_79 : decode cX9_lies 79 = .ok (.invokevirtual 105, 3) := by decide +kernel
theorem dX9_lies_82 : decode cX9_lies 82 = .ok (.ireturn, 1) := by decide +kernel
theorem dX9_day_0 : decode cX9_day 0 = .ok (.aload_n 0, 1) := by decide +kernel
theorem dX9_day_1 : decode cX9_day 1 = .ok (.iload_n 1, 1) := by decide +kernel
theorem dX9_day_2 : decode cX9_day 2 = .ok (.invokevirtual 319, 3) := by decide +kernel
theorem dX9_day_5 : decode cX9_day 5 = .ok (.istore_n 2, 1) := by decide +kernel
theorem dX9_day_6 : decode cX9_day 6 = .ok (.iload_n 2, 1) := by decide +kernel
theorem dX9_day_7 : decode cX9_day 7 = .ok (.ifCond .ge 5, 3) := by decide +kernel
theorem dX9_day_10 : decode cX9_day 10 = .ok (.iload_n 2, 1) := by decide +kernel
theorem dX9_day_11 : decode cX9_day 11 = .ok (.ireturn, 1) := by decide +kernel
theorem dX9_day_12 : decode cX9_day 12 = .ok (.bipush (-9), 2) := by decide +kernel
theorem dX9_day_14 : decode cX9_day 14 = .ok (.istore_n 3, 1) := by decide +kernel
theorem dX9_day_15 : decode cX9_day 15 = .ok (.ldc_w 297, 3) := by decide +kernel
theorem dX9_day_18 : decode cX9_day 18 = .ok (.istore 4, 2) := by decide +kernel
theorem dX9_day_20 : decode cX9_day 20 = .ok (.iconst 0, 1) := by decide +kernel
theorem dX9_day_21 : decode cX9_day 21 = .ok (.istore 5, 2) := by decide +kernel
theorem dX9_day_23 : decode cX9_day 23 = .ok (.iload 5, 2) := by decide +kernel
theorem dX9_day_25 : decode cX9_day 25 = .ok (.iconst 3, 1) := by decide +kernel
theorem dX9_day_26 : decode cX9_day 26 = .ok (.if_icmp .ge 72, 3) := by decide +kernel
theorem dX9_day_29 : decode cX9_day 29 = .ok (.aload_n 0, 1) := by decide +kernel
theorem dX9_day_30 : decode cX9_day 30 = .ok (.getfield 53, 3) := by decide +kernel
theorem dX9_day_33 : decode cX9_day 33 = .ok (.iload 5, 2) := by decide +kernel
theorem dX9_day_35 : decode cX9_day 35 = .ok (.iaload, 1) := by decide +kernel
theorem dX9_day_36 : decode cX9_day 36 = .ok (.iconst 1, 1) := by decide +kernel
theorem dX9_day_37 : decode cX9_day 37 = .ok (.if_icmp .ne 20, 3) := by decide +kernel
theorem dX9_day_40 : decode cX9_day 40 = .ok (.aload_n 0, 1) := by decide +kernel
theorem dX9_day_41 : decode cX9_day 41 = .ok (.iload_n 1, 1) := by decide +kernel
theorem dX9_day_42 : decode cX9_day 42 = .ok (.aload_n 0, 1) := by decide +kernel
theorem dX9_day_43 : decode cX9_day 43 = .ok (.getfield 56, 3) := by decide +kernel
theorem dX9_day_46 : decode cX9_day 46 = .ok (.bipush 17, 2) := by decide +kernel
theorem dX9_day_48 : decode cX9_day 48 = .ok (.iload 5, 2) := by decide +kernel
theorem dX9_day_50 : decode cX9_day 50 = .ok (.imul, 1) := by decide +kernel
theorem dX9_day_51 : decode cX9_day 51 = .ok (.invokevirtual 322, 3) := by decide +kernel
theorem dX9_day_54 : decode cX9_day 54 = .ok (.goto 6, 3) := by decide +kernel
theorem dX9_day_57 : decode cX9_day 57 = .ok (.ldc_w 297, 3) := by decide +kernel
theorem dX9_day_60 : decode cX9_day 60 = .ok (.istore 6, 2) := by decide +kernel
theorem dX9_day_62 : decode cX9_day 62 = .ok (.iload 6, 2) := by decide +kernel
theorem dX9_day_64 : decode cX9_day 64 = .ok (.iload 4, 2) := by decide +kernel
theorem dX9_day_66 : decode cX9_day 66 = .ok (.if_icmp .ge 8, 3) := by decide +kernel
theorem dX9_day_69 : decode cX9_day 69 = .ok (.iload 5, 2) := by decide +kernel
theorem dX9_day_71 : decode cX9_day 71 = .ok (.goto 4, 3) := by decide +kernel
theorem dX9_day_74 : decode cX9_day 74 = .ok (.iload_n 3, 1) := by decide +kernel
theorem dX9_day_75 : decode cX9_day 75 = .ok (.istore_n 3, 1) := by decide +kernel
theorem dX9_day_76 : decode cX9_day 76 = .ok (.iload 6, 2) := by decide +kernel
theorem dX9_day_78 : decode cX9_day 78 = .ok (.iload 4, 2) := by decide +kernel
theorem dX9_day_80 : decode cX9_day 80 = .ok (.if_icmp .ge 8, 3) := by decide +kernel
theorem dX9_day_83 : decode cX9_day 83 = .ok (.iload 6, 2) := by decide +kernel
theorem dX9_day_85 : decode cX9_day 85 = .ok (.goto 5, 3) := by decide +kernel
theorem dX9_day_88 : decode cX9_day 88 = .ok (.iload 4, 2) := by decide +kernel
theorem dX9_day_90 : decode cX9_day 90 = .ok (.istore 4, 2) := by decide +kernel
theorem dX9_day_92 : decode cX9_day 92 = .ok (.iinc 5 1, 3) := by decide +kernel
theorem dX9_day_95 : decode cX9_day 95 = .ok (.goto (-72), 3) := by decide +kernel
theorem dX9_day_98 : decode cX9_day 98 = .ok (.iload_n 3, 1) := by decide +kernel
theorem dX9_day_99 : decode cX9_day 99 = .ok (.bipush (-9), 2) := by decide +kernel
theorem dX9_day_101 : decode cX9_day 101 = .ok (.if_icmp .ne 8, 3) := by decide +kernel
theorem dX9_day_104 : decode cX9_day 104 = .ok (.bipush (-9), 2) := by decide +kernel
theorem dX9_day_106 : decode cX9_day 106 = .ok (.goto 10, 3) := by decide +kernel
theorem dX9_day_109 : decode cX9_day 109 = .ok (.aload_n 0, 1) := by decide +kernel
theorem dX9_day_110 : decode cX9_day 110 = .ok (.iload 4, 2) := by decide +kernel
theorem dX9_day_112 : decode cX9_day 112 = .ok (.iload_n 3, 1) := by decide +kernel
theorem dX9_day_113 : decode cX9_day 113 = .ok (.invokevirtual 105, 3) := by decide +kernel
theorem dX9_day_116 : decode cX9_day 116 = .ok (.ireturn, 1) := by decide +kernel
theorem dX9_depthsOf_0 : decode cX9_depthsOf 0 = .ok (.iconst 0, 1) := by decide +kernel
theorem dX9_depthsOf_1 : decode cX9_depthsOf 1 = .ok (.istore_n 3, 1) := by decide +kernel
theorem dX9_depthsOf_2 : decode cX9_depthsOf 2 = .ok (.lconst 0, 1) := by decide +kernel
theorem dX9_depthsOf_3 : decode cX9_depthsOf 3 = .ok (.lstore 4, 2) := by decide +kernel
theorem dX9_depthsOf_5 : decode cX9_depthsOf 5 = .ok (.iconst 0, 1) := by decide +kernel
theorem dX9_depthsOf_6 : decode cX9_depthsOf 6 = .ok (.istore 6, 2) := by decide +kernel
theorem dX9_depthsOf_8 : decode cX9_depthsOf 8 = .ok (.iload 6, 2) := by decide +kernel
theorem dX9_depthsOf_10 : decode cX9_depthsOf 10 = .ok (.iconst 5, 1) := by decide +kernel
theorem dX9_depthsOf_11 : decode cX9_depthsOf 11 = .ok (.if_icmp .gt 103, 3) := by decide +kernel
theorem dX9_depthsOf_14 : decode cX9_depthsOf 14 = .ok (.iconst 1, 1) := by decide +kernel
theorem dX9_depthsOf_15 : decode cX9_depthsOf 15 = .ok (.istore 7, 2) := by decide +kernel
theorem dX9_depthsOf_17 : decode cX9_depthsOf 17 = .ok (.iconst 0, 1) := by decide +kernel
theorem dX9_depthsOf_18 : decode cX9_depthsOf 18 = .ok (.istore 8, 2) := by decide +kernel
theorem dX9_depthsOf_20 : decode cX9_depthsOf 20 = .ok (.iload 8, 2) := by decide +kernel
theorem dX9_depthsOf_22 : decode cX9_depthsOf 22 = .ok (.aload_n 0, 1) := by decide +kernel
theorem dX9_depthsOf_23 : decode cX9_depthsOf 23 = .ok (.getfield 17, 3) := by decide +kernel
theorem dX9_depthsOf_26 : decode cX9_depthsOf 26 = .ok (.iload_n 1, 1) := by decide +kernel
theorem dX9_depthsOf_27 : decode cX9_depthsOf 27 = .ok (.iaload, 1) := by decide +kernel
theorem dX9_depthsOf_28 : decode cX9_depthsOf 28 = .ok (.if_icmp .ge 65, 3) := by decide +kernel
theorem dX9_depthsOf_31 : decode cX9_depthsOf 31 = .ok (.iload_n 3, 1) := by decide +kernel
theorem dX9_depthsOf_32 : decode cX9_depthsOf 32 = .ok (.ifCond .ne 14, 3) := by decide +kernel
theorem dX9_depthsOf_35 : decode cX9_depthsOf 35 = .ok (.aload_n 0, 1) := by decide +kernel
theorem dX9_depthsOf_36 : decode cX9_depthsOf 36 = .ok (.iload_n 1, 1) := by decide +kernel
theorem dX9_depthsOf_37 : decode cX9_depthsOf 37 = .ok (.iload 8, 2) := by decide +kernel
theorem dX9_depthsOf_39 : decode cX9_depthsOf 39 = .ok (.invokevirtual 101, 3) := by decide +kernel
theorem dX9_depthsOf_42 : decode cX9_depthsOf 42 = .ok (.iload_n 2, 1) := by decide +kernel
theorem dX9_depthsOf_43 : decode cX9_depthsOf 43 = .ok (.if_icmp .ne 7, 3) := by decide +kernel
theorem dX9_depthsOf_46 : decode cX9_depthsOf 46 = .ok (.iconst 1, 1) := by decide +kernel
theorem dX9_depthsOf_47 : decode cX9_depthsOf 47 = .ok (.goto 4, 3) := by decide +kernel
theorem dX9_depthsOf_50 : decode cX9_depthsOf 50 = .ok (.iconst 0, 1) := by decide +kernel
theorem dX9_depthsOf_51 : decode cX9_depthsOf 51 = .ok (.istore_n 3, 1) := by decide +kernel
theorem dX9_depthsOf_52 : decode cX9_depthsOf 52 = .ok (.iload 7, 2) := by decide +kernel
theorem dX9_depthsOf_54 : decode cX9_depthsOf 54 = .ok (.ifCond .eq 30, 3) := by decide +kernel
theorem dX9_depthsOf_57 : decode cX9_depthsOf 57 = .ok (.aload_n 0, 1) := by decide +kernel
theorem dX9_depthsOf_58 : decode cX9_depthsOf 58 = .ok (.iload_n 1, 1) := by decide +kernel
theorem dX9_depthsOf_59 : decode cX9_depthsOf 59 = .ok (.iload 8, 2) := by decide +kernel
theorem dX9_depthsOf_61 : decode cX9_depthsOf 61 = .ok (.invokevirtual 101, 3) := by decide +kernel
theorem dX9_depthsOf_64 : decode cX9_depthsOf 64 = .ok (.iload_n 2, 1) := by decide +kernel
theorem dX9_depthsOf_65 : decode cX9_depthsOf 65 = .ok (.if_icmp .ne 15, 3) := by decide +kernel
theorem dX9_depthsOf_68 : decode cX9_depthsOf 68 = .ok (.aload_n 0, 1) := by decide +kernel
theorem dX9_depthsOf_69 : decode cX9_depthsOf 69 = .ok (.iload_n 1, 1) := by decide +kernel
theorem dX9_depthsOf_70 : decode cX9_depthsOf 70 = .ok (.iload 8, 2) := by decide +kernel
theorem dX9_depthsOf_72 : decode cX9_depthsOf 72 = .ok (.iload 6, 2) := by decide +kernel
theorem dX9_depthsOf_74 : decode cX9_depthsOf 74 = .ok (.invokevirtual 316, 3) := by decide +kernel
theorem dX9_depthsOf_77 : decode cX9_depthsOf 77 = .ok (.ifCond .ne 7, 3) := by decide +kernel
theorem dX9_depthsOf_80 : decode cX9_depthsOf 80 = .ok (.iconst 1, 1) := by decide +kernel
theorem dX9_depthsOf_81 : decode cX9_depthsOf 81 = .ok (.goto 4, 3) := by decide +kernel
theorem dX9_depthsOf_84 : decode cX9_depthsOf 84 = .ok (.iconst 0, 1) := by decide +kernel
theorem dX9_depthsOf_85 : decode cX9_depthsOf 85 = .ok (.istore 7, 2) := by decide +kernel
theorem dX9_depthsOf_87 : decode cX9_depthsOf 87 = .ok (.iinc 8 3, 3) := by decide +kernel
theorem dX9_depthsOf_90 : decode cX9_depthsOf 90 = .ok (.goto (-70), 3) := by decide +kernel
theorem dX9_depthsOf_93 : decode cX9_depthsOf 93 = .ok (.lload 4, 2) := by decide +kernel
theorem dX9_depthsOf_95 : decode cX9_depthsOf 95 = .ok (.iload 7, 2) := by decide +kernel
theorem dX9_depthsOf_97 : decode cX9_depthsOf 97 = .ok (.ifCond .eq 7, 3) := by decide +kernel
theorem dX9_depthsOf_100 : decode cX9_depthsOf 100 = .ok (.lconst 1, 1) := by decide +kernel
theorem dX9_depthsOf_101 : decode cX9_depthsOf 101 = .ok (.goto 4, 3) := by decide +kernel
theorem dX9_depthsOf_104 : decode cX9_depthsOf 104 = .ok (.lconst 0, 1) := by decide +kernel
theorem dX9_depthsOf_105 : decode cX9_depthsOf 105 = .ok (.ladd, 1) := by decide +kernel
theorem dX9_depthsOf_106 : decode cX9_depthsOf 106 = .ok (.lstore 4, 2) := by decide +kernel
theorem dX9_depthsOf_108 : decode cX9_depthsOf 108 = .ok (.iinc 6 1, 3) := by decide +kernel
theorem dX9_depthsOf_111 : decode cX9_depthsOf 111 = .ok (.goto (-103), 3) := by decide +kernel
theorem dX9_depthsOf_114 : decode cX9_depthsOf 114 = .ok (.iload_n 3, 1) := by decide +kernel
theorem dX9_depthsOf_115 : decode cX9_depthsOf 115 = .ok (.ifCond .eq 8, 3) := by decide +kernel
theorem dX9_depthsOf_118 : decode cX9_depthsOf 118 = .ok (.lload 4, 2) := by decide +kernel
theorem dX9_depthsOf_120 : decode cX9_depthsOf 120 = .ok (.goto 4, 3) := by decide +kernel
theorem dX9_depthsOf_123 : decode cX9_depthsOf 123 = .ok (.lconst 1, 1) := by decide +kernel
theorem dX9_depthsOf_124 : decode cX9_depthsOf 124 = .ok (.lreturn, 1) := by decide +kernel
theorem dX9_grounds_0 : decode cX9_grounds 0 = .ok (.aload_n 0, 1) := by decide +kernel
theorem dX9_grounds_1 : decode cX9_grounds 1 = .ok (.iload_n 1, 1) := by decide +kernel
theorem dX9_grounds_2 : decode cX9_grounds 2 = .ok (.invokevirtual 319, 3) := by decide +kernel
theorem dX9_grounds_5 : decode cX9_grounds 5 = .ok (.istore_n 2, 1) := by decide +kernel
theorem dX9_grounds_6 : decode cX9_grounds 6 = .ok (.iload_n 2, 1) := by decide +kernel
theorem dX9_grounds_7 : decode cX9_grounds 7 = .ok (.ifCond .ge 5, 3) := by decide +kernel
theorem dX9_grounds_10 : decode cX9_grounds 10 = .ok (.iload_n 2, 1) := by decide +kernel
theorem dX9_grounds_11 : decode cX9_grounds 11 = .ok (.ireturn, 1) := by decide +kernel
theorem dX9_grounds_12 : decode cX9_grounds 12 = .ok (.lconst 1, 1) := by decide +kernel
theorem dX9_grounds_13 : decode cX9_grounds 13 = .ok (.lstore_n 3, 1) := by decide +kernel
theorem dX9_grounds_14 : decode cX9_grounds 14 = .ok (.iconst 0, 1) := by decide +kernel
theorem dX9_grounds_15 : decode cX9_grounds 15 = .ok (.istore 5, 2) := by decide +kernel
theorem dX9_grounds_17 : decode cX9_grounds 17 = .ok (.iload 5, 2) := by decide +kernel
theorem dX9_grounds_19 : decode cX9_grounds 19 = .ok (.aload_n 0, 1) := by decide +kernel
theorem dX9_grounds_20 : decode cX9_grounds 20 = .ok (.getfield 155, 3) := by decide +kernel
theorem dX9_grounds_23 : decode cX9_grounds 23 = .ok (.if_icmp .ge 19, 3) := by decide +kernel
theorem dX9_grounds_26 : decode cX9_grounds 26 = .ok (.lload_n 3, 1) := by decide +kernel
theorem dX9_grounds_27 : decode cX9_grounds 27 = .ok (.aload_n 0, 1) := by decide +kernel
theorem dX9_grounds_28 : decode cX9_grounds 28 = .ok (.iload_n 1, 1) := by decide +kernel
theorem dX9_grounds_29 : decode cX9_grounds 29 = .ok (.iload 5, 2) := by decide +kernel
theorem dX9_grounds_31 : decode cX9_grounds 31 = .ok (.invokevirtual 326, 3) := by decide +kernel
theorem dX9_grounds_34 : decode cX9_grounds 34 = .ok (.lmul, 1) := by decide +kernel
theorem dX9_grounds_35 : decode cX9_grounds 35 = .ok (.lstore_n 3, 1) := by decide +kernel
theorem dX9_grounds_36 : decode cX9_grounds 36 = .ok (.iinc 5 1, 3) := by decide +kernel
theorem dX9_grounds_39 : decode cX9_grounds 39 = .ok (.goto (-22), 3) := by decide +kernel
theorem dX9_grounds_42 : decode cX9_grounds 42 = .ok (.aload_n 0, 1) := by decide +kernel
theorem dX9_grounds_43 : decode cX9_grounds 43 = .ok (.lload_n 3, 1) := by decide +kernel
theorem dX9_grounds_44 : decode cX9_grounds 44 = .ok (.lconst 1, 1) := by decide +kernel
theorem dX9_grounds_45 : decode cX9_grounds 45 = .ok (.invokevirtual 308, 3) := by decide +kernel
theorem dX9_grounds_48 : decode cX9_grounds 48 = .ok (.ireturn, 1) := by decide +kernel
theorem dX9_power_0 : decode cX9_power 0 = .ok (.lconst 1, 1) := by decide +kernel
theorem dX9_power_1 : decode cX9_power 1 = .ok (.lstore_n 3, 1) := by decide +kernel
theorem dX9_power_2 : decode cX9_power 2 = .ok (.iconst 0, 1) := by decide +kernel
theorem dX9_power_3 : decode cX9_power 3 = .ok (.istore 5, 2) := by decide +kernel
theorem dX9_power_5 : decode cX9_power 5 = .ok (.iload 5, 2) := by decide +kernel
theorem dX9_power_7 : decode cX9_power 7 = .ok (.iload_n 2, 1) := by decide +kernel
theorem dX9_power_8 : decode cX9_power 8 = .ok (.if_icmp .ge 13, 3) := by decide +kernel
theorem dX9_power_11 : decode cX9_power 11 = .ok (.lload_n 3, 1) := by decide +kernel
theorem dX9_power_12 : decode cX9_power 12 = .ok (.lload_n 0, 1) := by decide +kernel
theorem dX9_power_13 : decode cX9_power 13 = .ok (.lmul, 1) := by decide +kernel
theorem dX9_power_14 : decode cX9_power 14 = .ok (.lstore_n 3, 1) := by decide +kernel
theorem dX9_power_15 : decode cX9_power 15 = .ok (.iinc 5 1, 3) := by decide +kernel
theorem dX9_power_18 : decode cX9_power 18 = .ok (.goto (-13), 3) := by decide +kernel
theorem dX9_power_21 : decode cX9_power 21 = .ok (.lload_n 3, 1) := by decide +kernel
theorem dX9_power_22 : decode cX9_power 22 = .ok (.lreturn, 1) := by decide +kernel
theorem dX9_odds_0 : decode cX9_odds 0 = .ok (.aload_n 0, 1) := by decide +kernel
theorem dX9_odds_1 : decode cX9_odds 1 = .ok (.iload_n 1, 1) := by decide +kernel
theorem dX9_odds_2 : decode cX9_odds 2 = .ok (.invokevirtual 246, 3) := by decide +kernel
theorem dX9_odds_5 : decode cX9_odds 5 = .ok (.ifCond .eq 13, 3) := by decide +kernel
theorem dX9_odds_8 : decode cX9_odds 8 = .ok (.iload_n 2, 1) := by decide +kernel
theorem dX9_odds_9 : decode cX9_odds 9 = .ok (.iconst 0, 1) := by decide +kernel
theorem dX9_odds_10 : decode cX9_odds 10 = .ok (.bipush 12, 2) := by decide +kernel
theorem dX9_odds_12 : decode cX9_odds 12 = .ok (.invokestatic 79, 3) := by decide +kernel
theorem dX9_odds_15 : decode cX9_odds 15 = .ok (.ifCond .ne 5, 3) := by decide +kernel
theorem dX9_odds_18 : decode cX9_odds 18 = .ok (.iconst (-1), 1) := by decide +kernel
theorem dX9_odds_19 : decode cX9_odds 19 = .ok (.ireturn, 1) := by decide +kernel
theorem dX9_odds_20 : decode cX9_odds 20 = .ok (.iconst 0, 1) := by decide +kernel
theorem dX9_odds_21 : decode cX9_odds 21 = .ok (.istore_n 3, 1) := by decide +kernel
theorem dX9_odds_22 : decode cX9_odds 22 = .ok (.iconst 0, 1) := by decide +kernel
theorem dX9_odds_23 : decode cX9_odds 23 = .ok (.istore 4, 2) := by decide +kernel
theorem dX9_odds_25 : decode cX9_odds 25 = .ok (.iload 4, 2) := by decide +kernel
theorem dX9_odds_27 : decode cX9_odds 27 = .ok (.aload_n 0, 1) := by decide +kernel
theorem dX9_odds_28 : decode cX9_odds 28 = .ok (.getfield 155, 3) := by decide +kernel
theorem dX9_odds_31 : decode cX9_odds 31 = .ok (.if_icmp .ge 42, 3) := by decide +kernel
theorem dX9_odds_34 : decode cX9_odds 34 = .ok (.iload_n 3, 1) := by decide +kernel
theorem dX9_odds_35 : decode cX9_odds 35 = .ok (.aload_n 0, 1) := by decide +kernel
theorem dX9_odds_36 : decode cX9_odds 36 = .ok (.getfield 44, 3) := by decide +kernel
theorem dX9_odds_39 : decode cX9_odds 39 = .ok (.iload_n 1, 1) := by decide +kernel
theorem dX9_odds_40 : decode cX9_odds 40 = .ok (.iaload, 1) := by decide +kernel
theorem dX9_odds_41 : decode cX9_odds 41 = .ok (.iload 4, 2) := by decide +kernel
theorem dX9_odds_43 : decode cX9_odds 43 = .ok (.invokestatic 170, 3) := by decide +kernel
theorem dX9_odds_46 : decode cX9_odds 46 = .ok (.ifCond .eq 18, 3) := by decide +kernel
theorem dX9_odds_49 : decode cX9_odds 49 = .ok (.aload_n 0, 1) := by decide +kernel
theorem dX9_odds_50 : decode cX9_odds 50 = .ok (.getfield 32, 3) := by decide +kernel
theorem dX9_odds_53 : decode cX9_odds 53 = .ok (.iload 4, 2) := by decide +kernel
theorem dX9_odds_55 : decode cX9_odds 55 = .ok (.iaload, 1) := by decide +kernel
theorem dX9_odds_56 : decode cX9_odds 56 = .ok (.iconst 1, 1) := by decide +kernel
theorem dX9_odds_57 : decode cX9_odds 57 = .ok (.if_icmp .ne 7, 3) := by decide +kernel
theorem dX9_odds_60 : decode cX9_odds 60 = .ok (.iconst 1, 1) := by decide +kernel
theorem dX9_odds_61 : decode cX9_odds 61 = .ok (.goto 4, 3) := by decide +kernel
theorem dX9_odds_64 : decode cX9_odds 64 = .ok (.iconst 0, 1) := by decide +kernel
theorem dX9_odds_65 : decode cX9_odds 65 = .ok (.iadd, 1) := by decide +kernel
theorem dX9_odds_66 : decode cX9_odds 66 = .ok (.istore_n 3, 1) := by decide +kernel
theorem dX9_odds_67 : decode cX9_odds 67 = .ok (.iinc 4 1, 3) := by decide +kernel
theorem dX9_odds_70 : decode cX9_odds 70 = .ok (.goto (-45), 3) := by decide +kernel
theorem dX9_odds_73 : decode cX9_odds 73 = .ok (.aload_n 0, 1) := by decide +kernel
theorem dX9_odds_74 : decode cX9_odds 74 = .ok (.bipush 12, 2) := by decide +kernel
theorem dX9_odds_76 : decode cX9_odds 76 = .ok (.iload_n 2, 1) := by decide +kernel
theorem dX9_odds_77 : decode cX9_odds 77 = .ok (.isub, 1) := by decide +kernel
theorem dX9_odds_78 : decode cX9_odds 78 = .ok (.i2l, 1) := by decide +kernel
theorem dX9_odds_79 : decode cX9_odds 79 = .ok (.ldc2_w 265, 3) := by decide +kernel
theorem dX9_odds_82 : decode cX9_odds 82 = .ok (.invokevirtual 308, 3) := by decide +kernel
theorem dX9_odds_85 : decode cX9_odds 85 = .ok (.pop, 1) := by decide +kernel
theorem dX9_odds_86 : decode cX9_odds 86 = .ok (.aload_n 0, 1) := by decide +kernel
theorem dX9_odds_87 : decode cX9_odds 87 = .ok (.aload_n 0, 1) := by decide +kernel
theorem dX9_odds_88 : decode cX9_odds 88 = .ok (.getfield 76, 3) := by decide +kernel
theorem dX9_odds_91 : decode cX9_odds 91 = .ok (.iload_n 3, 1) := by decide +kernel
theorem dX9_odds_92 : decode cX9_odds 92 = .ok (.invokestatic 329, 3) := by decide +kernel
theorem dX9_odds_95 : decode cX9_odds 95 = .ok (.aload_n 0, 1) := by decide +kernel
theorem dX9_odds_96 : decode cX9_odds 96 = .ok (.getfield 13, 3) := by decide +kernel
theorem dX9_odds_99 : decode cX9_odds 99 = .ok (.iload_n 3, 1) := by decide +kernel
theorem dX9_odds_100 : decode cX9_odds 100 = .ok (.invokestatic 329, 3) := by decide +kernel
theorem dX9_odds_103 : decode cX9_odds 103 = .ok (.invokevirtual 308, 3) := by decide +kernel
theorem dX9_odds_106 : decode cX9_odds 106 = .ok (.ireturn, 1) := by decide +kernel
theorem dX9_gone_0 : decode cX9_gone 0 = .ok (.aload_n 0, 1) := by decide +kernel
theorem dX9_gone_1 : decode cX9_gone 1 = .ok (.iload_n 1, 1) := by decide +kernel
theorem dX9_gone_2 : decode cX9_gone 2 = .ok (.invokevirtual 212, 3) := by decide +kernel
theorem dX9_gone_5 : decode cX9_gone 5 = .ok (.ifCond .eq 23, 3) := by decide +kernel
theorem dX9_gone_8 : decode cX9_gone 8 = .ok (.iload_n 2, 1) := by decide +kernel
theorem dX9_gone_9 : decode cX9_gone 9 = .ok (.iconst 0, 1) := by decide +kernel
theorem dX9_gone_10 : decode cX9_gone 10 = .ok (.bipush 8, 2) := by decide +kernel
theorem dX9_gone_12 : decode cX9_gone 12 = .ok (.invokestatic 79, 3) := by decide +kernel
theorem dX9_gone_15 : decode cX9_gone 15 = .ok (.ifCond .eq 13, 3) := by decide +kernel
theorem dX9_gone_18 : decode cX9_gone 18 = .ok (.iload_n 3, 1) := by decide +kernel
theorem dX9_gone_19 : decode cX9_gone 19 = .ok (.iconst 0, 1) := by decide +kernel
theorem dX9_gone_20 : decode cX9_gone 20 = .ok (.bipush 12, 2) := by decide +kernel
theorem dX9_gone_22 : decode cX9_gone 22 = .ok (.invokestatic 79, 3) := by decide +kernel
theorem dX9_gone_25 : decode cX9_gone 25 = .ok (.ifCond .ne 5, 3) := by decide +kernel
theorem dX9_gone_28 : decode cX9_gone 28 = .ok (.iconst (-1), 1) := by decide +kernel
theorem dX9_gone_29 : decode cX9_gone 29 = .ok (.ireturn, 1) := by decide +kernel
theorem dX9_gone_30 : decode cX9_gone 30 = .ok (.aload_n 0, 1) := by decide +kernel
theorem dX9_gone_31 : decode cX9_gone 31 = .ok (.getfield 65, 3) := by decide +kernel
theorem dX9_gone_34 : decode cX9_gone 34 = .ok (.astore 4, 2) := by decide +kernel
theorem dX9_gone_36 : decode cX9_gone 36 = .ok (.iconst 0, 1) := by decide +kernel
theorem dX9_gone_37 : decode cX9_gone 37 = .ok (.istore 5, 2) := by decide +kernel
theorem dX9_gone_39 : decode cX9_gone 39 = .ok (.iload 5, 2) := by decide +kernel
theorem dX9_gone_41 : decode cX9_gone 41 = .ok (.iconst 5, 1) := by decide +kernel
theorem dX9_gone_42 : decode cX9_gone 42 = .ok (.if_icmp .gt 30, 3) := by decide +kernel
theorem dX9_gone_45 : decode cX9_gone 45 = .ok (.aload 4, 2) := by decide +kernel
theorem dX9_gone_47 : decode cX9_gone 47 = .ok (.iload 5, 2) := by decide +kernel
theorem dX9_gone_49 : decode cX9_gone 49 = .ok (.iload 5, 2) := by decide +kernel
theorem dX9_gone_51 : decode cX9_gone 51 = .ok (.aload_n 0, 1) := by decide +kernel
theorem dX9_gone_52 : decode cX9_gone 52 = .ok (.getfield 32, 3) := by decide +kernel
theorem dX9_gone_55 : decode cX9_gone 55 = .ok (.iload_n 1, 1) := by decide +kernel
theorem dX9_gone_56 : decode cX9_gone 56 = .ok (.iaload, 1) := by decide +kernel
theorem dX9_gone_57 : decode cX9_gone 57 = .ok (.if_icmp .ne 7, 3) := by decide +kernel
theorem dX9_gone_60 : decode cX9_gone 60 = .ok (.lconst 1, 1) := by decide +kernel
theorem dX9_gone_61 : decode cX9_gone 61 = .ok (.goto 4, 3) := by decide +kernel
theorem dX9_gone_64 : decode cX9_gone 64 = .ok (.lconst 0, 1) := by decide +kernel
theorem dX9_gone_65 : decode cX9_gone 65 = .ok (.lastore, 1) := by decide +kernel
theorem dX9_gone_66 : decode cX9_gone 66 = .ok (.iinc 5 1, 3) := by decide +kernel
theorem dX9_gone_69 : decode cX9_gone 69 = .ok (.goto (-30), 3) := by decide +kernel
theorem dX9_gone_72 : decode cX9_gone 72 = .ok (.iconst 0, 1) := by decide +kernel
theorem dX9_gone_73 : decode cX9_gone 73 = .ok (.istore 5, 2) := by decide +kernel
theorem dX9_gone_75 : decode cX9_gone 75 = .ok (.iload 5, 2) := by decide +kernel
theorem dX9_gone_77 : decode cX9_gone 77 = .ok (.iload_n 2, 1) := by decide +kernel
theorem dX9_gone_78 : decode cX9_gone 78 = .ok (.if_icmp .ge 82, 3) := by decide +kernel
theorem dX9_gone_81 : decode cX9_gone 81 = .ok (.aload 4, 2) := by decide +kernel
theorem dX9_gone_83 : decode cX9_gone 83 = .ok (.iconst 0, 1) := by decide +kernel
theorem dX9_gone_84 : decode cX9_gone 84 = .ok (.ldc2_w 265, 3) := by decide +kernel
theorem dX9_gone_87 : decode cX9_gone 87 = .ok (.aload 4, 2) := by decide +kernel
theorem dX9_gone_89 : decode cX9_gone 89 = .ok (.iconst 0, 1) := by decide +kernel
theorem dX9_gone_90 : decode cX9_gone 90 = .ok (.laload, 1) := by decide +kernel
theorem dX9_gone_91 : decode cX9_gone 91 = .ok (.lmul, 1) := by decide +kernel
theorem dX9_gone_92 : decode cX9_gone 92 = .ok (.iload_n 3, 1) := by decide +kernel
theorem dX9_gone_93 : decode cX9_gone 93 = .ok (.i2l, 1) := by decide +kernel
theorem dX9_gone_94 : decode cX9_gone 94 = .ok (.aload 4, 2) := by decide +kernel
theorem dX9_gone_96 : decode cX9_gone 96 = .ok (.iconst 1, 1) := by decide +kernel
theorem dX9_gone_97 : decode cX9_gone 97 = .ok (.laload, 1) := by decide +kernel
theorem dX9_gone_98 : decode cX9_gone 98 = .ok (.lmul, 1) := by decide +kernel
theorem dX9_gone_99 : decode cX9_gone 99 = .ok (.ladd, 1) := by decide +kernel
theorem dX9_gone_100 : decode cX9_gone 100 = .ok (.lastore, 1) := by decide +kernel
theorem dX9_gone_101 : decode cX9_gone 101 = .ok (.iconst 1, 1) := by decide +kernel
theorem dX9_gone_102 : decode cX9_gone 102 = .ok (.istore 6, 2) := by decide +kernel
theorem dX9_gone_104 : decode cX9_gone 104 = .ok (.iload 6, 2) := by decide +kernel
theorem dX9_gone_106 : decode cX9_gone 106 = .ok (.iconst 5, 1) := by decide +kernel
theorem dX9_gone_107 : decode cX9_gone 107 = .ok (.if_icmp .gt 47, 3) := by decide +kernel
theorem dX9_gone_110 : decode cX9_gone 110 = .ok (.aload 4, 2) := by decide +kernel
theorem dX9_gone_112 : decode cX9_gone 112 = .ok (.iload 6, 2) := by decide +kernel
theorem dX9_gone_114 : decode cX9_gone 114 = .ok (.ldc2_w 265, 3) := by decide +kernel
theorem dX9_gone_117 : decode cX9_gone 117 = .ok (.iload_n 3, 1) := by decide +kernel
theorem dX9_gone_118 : decode cX9_gone 118 = .ok (.i2l, 1) := by decide +kernel
theorem dX9_gone_119 : decode cX9_gone 119 = .ok (.lsub, 1) := by decide +kernel
theorem dX9_gone_120 : decode cX9_gone 120 = .ok (.aload 4, 2) := by decide +kernel
theorem dX9_gone_122 : decode cX9_gone 122 = .ok (.iload 6, 2) := by decide +kernel
theorem dX9_gone_124 : decode cX9_gone 124 = .ok (.laload, 1) := by decide +kernel
theorem dX9_gone_125 : decode cX9_gone 125 = .ok (.lmul, 1) := by decide +kernel
theorem dX9_gone_126 : decode cX9_gone 126 = .ok (.iload 6, 2) := by decide +kernel
theorem dX9_gone_128 : decode cX9_gone 128 = .ok (.iconst 5, 1) := by decide +kernel
theorem dX9_gone_129 : decode cX9_gone 129 = .ok (.if_icmp .ge 16, 3) := by decide +kernel
theorem dX9_gone_132 : decode cX9_gone 132 = .ok (.iload_n 3, 1) := by decide +kernel
theorem dX9_gone_133 : decode cX9_gone 133 = .ok (.i2l, 1) := by decide +kernel
theorem dX9_gone_134 : decode cX9_gone 134 = .ok (.aload 4, 2) := by decide +kernel
theorem dX9_gone_136 : decode cX9_gone 136 = .ok (.iload 6, 2) := by decide +kernel
theorem dX9_gone_138 : decode cX9_gone 138 = .ok (.iconst 1, 1) := by decide +kernel
theorem dX9_gone_139 : decode cX9_gone 139 = .ok (.iadd, 1) := by decide +kernel
theorem dX9_gone_140 : decode cX9_gone 140 = .ok (.laload, 1) := by decide +kernel
theorem dX9_gone_141 : decode cX9_gone 141 = .ok (.lmul, 1) := by decide +kernel
theorem dX9_gone_142 : decode cX9_gone 142 = .ok (.goto 4, 3) := by decide +kernel
theorem dX9_gone_145 : decode cX9_gone 145 = .ok (.lconst 0, 1) := by decide +kernel
theorem dX9_gone_146 : decode cX9_gone 146 = .ok (.ladd, 1) := by decide +kernel
theorem dX9_gone_147 : decode cX9_gone 147 = .ok (.lastore, 1) := by decide +kernel
theorem dX9_gone_148 : decode cX9_gone 148 = .ok (.iinc 6 1, 3) := by decide +kernel
theorem dX9_gone_151 : decode cX9_gone 151 = .ok (.goto (-47), 3) := by decide +kernel
theorem dX9_gone_154 : decode cX9_gone 154 = .ok (.iinc 5 1, 3) := by decide +kernel
theorem dX9_gone_157 : decode cX9_gone 157 = .ok (.goto (-82), 3) := by decide +kernel
theorem dX9_gone_160 : decode cX9_gone 160 = .ok (.aload_n 0, 1) := by decide +kernel
theorem dX9_gone_161 : decode cX9_gone 161 = .ok (.aload 4, 2) := by decide +kernel
theorem dX9_gone_163 : decode cX9_gone 163 = .ok (.iconst 0, 1) := by decide +kernel
theorem dX9_gone_164 : decode cX9_gone 164 = .ok (.laload, 1) := by decide +kernel
theorem dX9_gone_165 : decode cX9_gone 165 = .ok (.ldc2_w 265, 3) := by decide +kernel
theorem dX9_gone_168 : decode cX9_gone 168 = .ok (.iload_n 2, 1) := by decide +kernel
theorem dX9_gone_169 : decode cX9_gone 169 = .ok (.invokestatic 329, 3) := by decide +kernel
theorem dX9_gone_172 : decode cX9_gone 172 = .ok (.invokevirtual 308, 3) := by decide +kernel
theorem dX9_gone_175 : decode cX9_gone 175 = .ok (.ireturn, 1) := by decide +kernel
theorem dX9_asked_0 : decode cX9_asked 0 = .ok (.aload_n 0, 1) := by decide +kernel
theorem dX9_asked_1 : decode cX9_asked 1 = .ok (.getfield 73, 3) := by decide +kernel
theorem dX9_asked_4 : decode cX9_asked 4 = .ok (.ireturn, 1) := by decide +kernel
theorem dX9_upper_0 : decode cX9_upper 0 = .ok (.aload_n 0, 1) := by decide +kernel
theorem dX9_upper_1 : decode cX9_upper 1 = .ok (.getfield 76, 3) := by decide +kernel
theorem dX9_upper_4 : decode cX9_upper 4 = .ok (.lreturn, 1) := by decide +kernel
theorem dX9_lower_0 : decode cX9_lower 0 = .ok (.aload_n 0, 1) := by decide +kernel
theorem dX9_lower_1 : decode cX9_lower 1 = .ok (.getfield 13, 3) := by decide +kernel
theorem dX9_lower_4 : decode cX9_lower 4 = .ok (.lreturn, 1) := by decide +kernel
theorem dX9_tells_0 : decode cX9_tells 0 = .ok (.iconst 0, 1) := by decide +kernel
theorem dX9_tells_1 : decode cX9_tells 1 = .ok (.istore_n 2, 1) := by decide +kernel
theorem dX9_tells_2 : decode cX9_tells 2 = .ok (.iconst 0, 1) := by decide +kernel
theorem dX9_tells_3 : decode cX9_tells 3 = .ok (.istore_n 3, 1) := by decide +kernel
theorem dX9_tells_4 : decode cX9_tells 4 = .ok (.iload_n 3, 1) := by decide +kernel
theorem dX9_tells_5 : decode cX9_tells 5 = .ok (.bipush 6, 2) := by decide +kernel
theorem dX9_tells_7 : decode cX9_tells 7 = .ok (.if_icmp .ge 96, 3) := by decide +kernel
theorem dX9_tells_10 : decode cX9_tells 10 = .ok (.iload_n 2, 1) := by decide +kernel
theorem dX9_tells_11 : decode cX9_tells 11 = .ok (.iload_n 1, 1) := by decide +kernel
theorem dX9_tells_12 : decode cX9_tells 12 = .ok (.bipush 6, 2) := by decide +kernel
theorem dX9_tells_14 : decode cX9_tells 14 = .ok (.if_icmp .ne 20, 3) := by decide +kernel
theorem dX9_tells_17 : decode cX9_tells 17 = .ok (.iload_n 3, 1) := by decide +kernel
theorem dX9_tells_18 : decode cX9_tells 18 = .ok (.aload_n 0, 1) := by decide +kernel
theorem dX9_tells_19 : decode cX9_tells 19 = .ok (.getfield 161, 3) := by decide +kernel
theorem dX9_tells_22 : decode cX9_tells 22 = .ok (.if_icmp .ge 12, 3) := by decide +kernel
theorem dX9_tells_25 : decode cX9_tells 25 = .ok (.aload_n 0, 1) := by decide +kernel
theorem dX9_tells_26 : decode cX9_tells 26 = .ok (.iload_n 3, 1) := by decide +kernel
theorem dX9_tells_27 : decode cX9_tells 27 = .ok (.iconst 1, 1) := by decide +kernel
theorem dX9_tells_28 : decode cX9_tells 28 = .ok (.invokevirtual 240, 3) := by decide +kernel
theorem dX9_tells_31 : decode cX9_tells 31 = .ok (.ifCond .ne 59, 3) := by decide +kernel
theorem dX9_tells_34 : decode cX9_tells 34 = .ok (.iload_n 1, 1) := by decide +kernel
theorem dX9_tells_35 : decode cX9_tells 35 = .ok (.bipush 7, 2) := by decide +kernel
theorem dX9_tells_37 : decode cX9_tells 37 = .ok (.if_icmp .ne 12, 3) := by decide +kernel
theorem dX9_tells_40 : decode cX9_tells 40 = .ok (.aload_n 0, 1) := by decide +kernel
theorem dX9_tells_41 : decode cX9_tells 41 = .ok (.getfield 17, 3) := by decide +kernel
theorem dX9_tells_44 : decode cX9_tells 44 = .ok (.iload_n 3, 1) := by decide +kernel
theorem dX9_tells_45 : decode cX9_tells 45 = .ok (.iaload, 1) := by decide +kernel
theorem dX9_tells_46 : decode cX9_tells 46 = .ok (.ifCond .ge 44, 3) := by decide +kernel
theorem dX9_tells_49 : decode cX9_tells 49 = .ok (.iload_n 1, 1) := by decide +kernel
theorem dX9_tells_50 : decode cX9_tells 50 = .ok (.bipush 8, 2) := by decide +kernel
theorem dX9_tells_52 : decode cX9_tells 52 = .ok (.if_icmp .ne 17, 3) := by decide +kernel
theorem dX9_tells_55 : decode cX9_tells 55 = .ok (.iload_n 3, 1) := by decide +kernel
theorem dX9_tells_56 : decode cX9_tells 56 = .ok (.iconst 4, 1) := by decide +kernel
theorem dX9_tells_57 : decode cX9_tells 57 = .ok (.if_icmp .ge 12, 3) := by decide +kernel
theorem dX9_tells_60 : decode cX9_tells 60 = .ok (.aload_n 0, 1) := by decide +kernel
theorem dX9_tells_61 : decode cX9_tells 61 = .ok (.getfield 26, 3) := by decide +kernel
theorem dX9_tells_64 : decode cX9_tells 64 = .ok (.iload_n 3, 1) := by decide +kernel
theorem dX9_tells_65 : decode cX9_tells 65 = .ok (.iaload, 1) := by decide +kernel
theorem dX9_tells_66 : decode cX9_tells 66 = .ok (.ifCond .ge 24, 3) := by decide +kernel
theorem dX9_tells_69 : decode cX9_tells 69 = .ok (.iload_n 1, 1) := by decide +kernel
theorem dX9_tells_70 : decode cX9_tells 70 = .ok (.bipush 9, 2) := by decide +kernel
theorem dX9_tells_72 : decode cX9_tells 72 = .ok (.if_icmp .ne 22, 3) := by decide +kernel
theorem dX9_tells_75 : decode cX9_tells 75 = .ok (.iload_n 3, 1) := by decide +kernel
theorem dX9_tells_76 : decode cX9_tells 76 = .ok (.iconst 3, 1) := by decide +kernel
theorem dX9_tells_77 : decode cX9_tells 77 = .ok (.if_icmp .ge 17, 3) := by decide +kernel
theorem dX9_tells_80 : decode cX9_tells 80 = .ok (.aload_n 0, 1) := by decide +kernel
theorem dX9_tells_81 : decode cX9_tells 81 = .ok (.getfield 53, 3) := by decide +kernel
theorem dX9_tells_84 : decode cX9_tells 84 = .ok (.iload_n 3, 1) := by decide +kernel
theorem dX9_tells_85 : decode cX9_tells 85 = .ok (.iaload, 1) := by decide +kernel
theorem dX9_tells_86 : decode cX9_tells 86 = .ok (.iconst 1, 1) := by decide +kernel
theorem dX9_tells_87 : decode cX9_tells 87 = .ok (.if_icmp .ne 7, 3) := by decide +kernel
theorem dX9_tells_90 : decode cX9_tells 90 = .ok (.iconst 1, 1) := by decide +kernel
theorem dX9_tells_91 : decode cX9_tells 91 = .ok (.goto 4, 3) := by decide +kernel
theorem dX9_tells_94 : decode cX9_tells 94 = .ok (.iconst 0, 1) := by decide +kernel
theorem dX9_tells_95 : decode cX9_tells 95 = .ok (.iadd, 1) := by decide +kernel
theorem dX9_tells_96 : decode cX9_tells 96 = .ok (.istore_n 2, 1) := by decide +kernel
theorem dX9_tells_97 : decode cX9_tells 97 = .ok (.iinc 3 1, 3) := by decide +kernel
theorem dX9_tells_100 : decode cX9_tells 100 = .ok (.goto (-96), 3) := by decide +kernel
theorem dX9_tells_103 : decode cX9_tells 103 = .ok (.iload_n 1, 1) := by decide +kernel
theorem dX9_tells_104 : decode cX9_tells 104 = .ok (.tableswitch 70 0 5 #[40, 45, 50, 55, 60, 65], 40) := by decide +kernel
theorem dX9_tells_144 : decode cX9_tells 144 = .ok (.aload_n 0, 1) := by decide +kernel
theorem dX9_tells_145 : decode cX9_tells 145 = .ok (.getfield 155, 3) := by decide +kernel
theorem dX9_tells_148 : decode cX9_tells 148 = .ok (.ireturn, 1) := by decide +kernel
theorem dX9_tells_149 : decode cX9_tells 149 = .ok (.aload_n 0, 1) := by decide +kernel
theorem dX9_tells_150 : decode cX9_tells 150 = .ok (.getfield 158, 3) := by decide +kernel
theorem dX9_tells_153 : decode cX9_tells 153 = .ok (.ireturn, 1) := by decide +kernel
theorem dX9_tells_154 : decode cX9_tells 154 = .ok (.aload_n 0, 1) := by decide +kernel
theorem dX9_tells_155 : decode cX9_tells 155 = .ok (.invokevirtual 267, 3) := by decide +kernel
theorem dX9_tells_158 : decode cX9_tells 158 = .ok (.ireturn, 1) := by decide +kernel
theorem dX9_tells_159 : decode cX9_tells 159 = .ok (.aload_n 0, 1) := by decide +kernel
theorem dX9_tells_160 : decode cX9_tells 160 = .ok (.getfield 164, 3) := by decide +kernel
theorem dX9_tells_163 : decode cX9_tells 163 = .ok (.ireturn, 1) := by decide +kernel
theorem dX9_tells_164 : decode cX9_tells 164 = .ok (.aload_n 0, 1) := by decide +kernel
theorem dX9_tells_165 : decode cX9_tells 165 = .ok (.getfield 167, 3) := by decide +kernel
theorem dX9_tells_168 : decode cX9_tells 168 = .ok (.ireturn, 1) := by decide +kernel
theorem dX9_tells_169 : decode cX9_tells 169 = .ok (.aload_n 0, 1) := by decide +kernel
theorem dX9_tells_170 : decode cX9_tells 170 = .ok (.getfield 161, 3) := by decide +kernel
theorem dX9_tells_173 : decode cX9_tells 173 = .ok (.ireturn, 1) := by decide +kernel
theorem dX9_tells_174 : decode cX9_tells 174 = .ok (.iload_n 2, 1) := by decide +kernel
theorem dX9_tells_175 : decode cX9_tells 175 = .ok (.ireturn, 1) := by decide +kernel
theorem dX9_count_0 : decode cX9_count 0 = .ok (.iload_n 1, 1) := by decide +kernel
theorem dX9_count_1 : decode cX9_count 1 = .ok (.iconst 0, 1) := by decide +kernel
theorem dX9_count_2 : decode cX9_count 2 = .ok (.bipush 9, 2) := by decide +kernel
theorem dX9_count_4 : decode cX9_count 4 = .ok (.invokestatic 79, 3) := by decide +kernel
theorem dX9_count_7 : decode cX9_count 7 = .ok (.ifCond .eq 11, 3) := by decide +kernel
theorem dX9_count_10 : decode cX9_count 10 = .ok (.aload_n 0, 1) := by decide +kernel
theorem dX9_count_11 : decode cX9_count 11 = .ok (.iload_n 1, 1) := by decide +kernel
theorem dX9_count_12 : decode cX9_count 12 = .ok (.invokevirtual 333, 3) := by decide +kernel
theorem dX9_count_15 : decode cX9_count 15 = .ok (.goto 4, 3) := by decide +kernel
theorem dX9_count_18 : decode cX9_count 18 = .ok (.iconst (-1), 1) := by decide +kernel
theorem dX9_count_19 : decode cX9_count 19 = .ok (.ireturn, 1) := by decide +kernel
theorem dX9_finding_0 : decode cX9_finding 0 = .ok (.aload_n 0, 1) := by decide +kernel
theorem dX9_finding_1 : decode cX9_finding 1 = .ok (.getfield 69, 3) := by decide +kernel
theorem dX9_finding_4 : decode cX9_finding 4 = .ok (.ireturn, 1) := by decide +kernel
theorem dX9_findings_0 : decode cX9_findings 0 = .ok (.iload_n 1, 1) := by decide +kernel
theorem dX9_findings_1 : decode cX9_findings 1 = .ok (.iconst 1, 1) := by decide +kernel
theorem dX9_findings_2 : decode cX9_findings 2 = .ok (.iconst 5, 1) := by decide +kernel
theorem dX9_findings_3 : decode cX9_findings 3 = .ok (.invokestatic 79, 3) := by decide +kernel
theorem dX9_findings_6 : decode cX9_findings 6 = .ok (.ifCond .eq 12, 3) := by decide +kernel
theorem dX9_findings_9 : decode cX9_findings 9 = .ok (.aload_n 0, 1) := by decide +kernel
theorem dX9_findings_10 : decode cX9_findings 10 = .ok (.getfield 7, 3) := by decide +kernel
theorem dX9_findings_13 : decode cX9_findings 13 = .ok (.iload_n 1, 1) := by decide +kernel
theorem dX9_findings_14 : decode cX9_findings 14 = .ok (.iaload, 1) := by decide +kernel
theorem dX9_findings_15 : decode cX9_findings 15 = .ok (.goto 4, 3) := by decide +kernel
theorem dX9_findings_18 : decode cX9_findings 18 = .ok (.iconst (-1), 1) := by decide +kernel
theorem dX9_findings_19 : decode cX9_findings 19 = .ok (.ireturn, 1) := by decide +kernel
theorem dX9_mix_0 : decode cX9_mix 0 = .ok (.aload_n 0, 1) := by decide +kernel
theorem dX9_mix_1 : decode cX9_mix 1 = .ok (.ldc2_w 336, 3) := by decide +kernel
theorem dX9_mix_4 : decode cX9_mix 4 = .ok (.aload_n 0, 1) := by decide +kernel
theorem dX9_mix_5 : decode cX9_mix 5 = .ok (.getfield 338, 3) := by decide +kernel
theorem dX9_mix_8 : decode cX9_mix 8 = .ok (.lmul, 1) := by decide +kernel
theorem dX9_mix_9 : decode cX9_mix 9 = .ok (.iload_n 1, 1) := by decide +kernel
theorem dX9_mix_10 : decode cX9_mix 10 = .ok (.i2l, 1) := by decide +kernel
theorem dX9_mix_11 : decode cX9_mix 11 = .ok (.ladd, 1) := by decide +kernel
theorem dX9_mix_12 : decode cX9_mix 12 = .ok (.putfield 338, 3) := by decide +kernel
theorem dX9_mix_15 : decode cX9_mix 15 = .ok (.return_, 1) := by decide +kernel
theorem dX9_mixGround_0 : decode cX9_mixGround 0 = .ok (.iconst 0, 1) := by decide +kernel
theorem dX9_mixGround_1 : decode cX9_mixGround 1 = .ok (.istore_n 1, 1) := by decide +kernel
theorem dX9_mixGround_2 : decode cX9_mixGround 2 = .ok (.iload_n 1, 1) := by decide +kernel
theorem dX9_mixGround_3 : decode cX9_mixGround 3 = .ok (.aload_n 0, 1) := by decide +kernel
theorem dX9_mixGround_4 : decode cX9_mixGround 4 = .ok (.getfield 155, 3) := by decide +kernel
theorem dX9_mixGround_7 : decode cX9_mixGround 7 = .ok (.if_icmp .ge 32, 3) := by decide +kernel
theorem dX9_mixGround_10 : decode cX9_mixGround 10 = .ok (.iconst 0, 1) := by decide +kernel
theorem dX9_mixGround_11 : decode cX9_mixGround 11 = .ok (.istore_n 2, 1) := by decide +kernel
theorem dX9_mixGround_12 : decode cX9_mixGround 12 = .ok (.iload_n 2, 1) := by decide +kernel
theorem dX9_mixGround_13 : decode cX9_mixGround 13 = .ok (.iconst 2, 1) := by decide +kernel
theorem dX9_mixGround_14 : decode cX9_mixGround 14 = .ok (.if_icmp .gt 19, 3) := by decide +kernel
theorem dX9_mixGround_17 : decode cX9_mixGround 17 = .ok (.aload_n 0, 1) := by decide +kernel
theorem dX9_mixGround_18 : decode cX9_mixGround 18 = .ok (.aload_n 0, 1) := by decide +kernel
theorem dX9_mixGround_19 : decode cX9_mixGround 19 = .ok (.iload_n 1, 1) := by decide +kernel
theorem dX9_mixGround_20 : decode cX9_mixGround 20 = .ok (.iload_n 2, 1) := by decide +kernel
theorem dX9_mixGround_21 : decode cX9_mixGround 21 = .ok (.invokevirtual 215, 3) := by decide +kernel
theorem dX9_mixGround_24 : decode cX9_mixGround 24 = .ok (.invokevirtual 341, 3) := by decide +kernel
theorem dX9_mixGround_27 : decode cX9_mixGround 27 = .ok (.iinc 2 1, 3) := by decide +kernel
theorem dX9_mixGround_30 : decode cX9_mixGround 30 = .ok (.goto (-18), 3) := by decide +kernel
theorem dX9_mixGround_33 : decode cX9_mixGround 33 = .ok (.iinc 1 1, 3) := by decide +kernel
theorem dX9_mixGround_36 : decode cX9_mixGround 36 = .ok (.goto (-34), 3) := by decide +kernel
theorem dX9_mixGround_39 : decode cX9_mixGround 39 = .ok (.iconst 0, 1) := by decide +kernel
theorem dX9_mixGround_40 : decode cX9_mixGround 40 = .ok (.istore_n 1, 1) := by decide +kernel
theorem dX9_mixGround_41 : decode cX9_mixGround 41 = .ok (.iload_n 1, 1) := by decide +kernel
theorem dX9_mixGround_42 : decode cX9_mixGround 42 = .ok (.aload_n 0, 1) := by decide +kernel
theorem dX9_mixGround_43 : decode cX9_mixGround 43 = .ok (.getfield 161, 3) := by decide +kernel
theorem dX9_mixGround_46 : decode cX9_mixGround 46 = .ok (.if_icmp .ge 19, 3) := by decide +kernel
theorem dX9_mixGround_49 : decode cX9_mixGround 49 = .ok (.aload_n 0, 1) := by decide +kernel
theorem dX9_mixGround_50 : decode cX9_mixGround 50 = .ok (.aload_n 0, 1) := by decide +kernel
theorem dX9_mixGround_51 : decode cX9_mixGround 51 = .ok (.getfield 38, 3) := by decide +kernel
theorem dX9_mixGround_54 : decode cX9_mixGround 54 = .ok (.iload_n 1, 1) := by decide +kernel
theorem dX9_mixGround_55 : decode cX9_mixGround 55 = .ok (.iaload, 1) := by decide +kernel
theorem dX9_mixGround_56 : decode cX9_mixGround 56 = .ok (.invokevirtual 341, 3) := by decide +kernel
theorem dX9_mixGround_59 : decode cX9_mixGround 59 = .ok (.iinc 1 1, 3) := by decide +kernel
theorem dX9_mixGround_62 : decode cX9_mixGround 62 = .ok (.goto (-21), 3) := by decide +kernel
theorem dX9_mixGround_65 : decode cX9_mixGround 65 = .ok (.iconst 0, 1) := by decide +kernel
theorem dX9_mixGround_66 : decode cX9_mixGround 66 = .ok (.istore_n 1, 1) := by decide +kernel
theorem dX9_mixGround_67 : decode cX9_mixGround 67 = .ok (.iload_n 1, 1) := by decide +kernel
theorem dX9_mixGround_68 : decode cX9_mixGround 68 = .ok (.iconst 3, 1) := by decide +kernel
theorem dX9_mixGround_69 : decode cX9_mixGround 69 = .ok (.if_icmp .ge 80, 3) := by decide +kernel
theorem dX9_mixGround_72 : decode cX9_mixGround 72 = .ok (.iconst 0, 1) := by decide +kernel
theorem dX9_mixGround_73 : decode cX9_mixGround 73 = .ok (.istore_n 2, 1) := by decide +kernel
theorem dX9_mixGround_74 : decode cX9_mixGround 74 = .ok (.iload_n 2, 1) := by decide +kernel
theorem dX9_mixGround_75 : decode cX9_mixGround 75 = .ok (.aload_n 0, 1) := by decide +kernel
theorem dX9_mixGround_76 : decode cX9_mixGround 76 = .ok (.getfield 155, 3) := by decide +kernel
theorem dX9_mixGround_79 : decode cX9_mixGround 79 = .ok (.if_icmp .ge 34, 3) := by decide +kernel
theorem dX9_mixGround_82 : decode cX9_mixGround 82 = .ok (.aload_n 0, 1) := by decide +kernel
theorem dX9_mixGround_83 : decode cX9_mixGround 83 = .ok (.getfield 53, 3) := by decide +kernel
theorem dX9_mixGround_86 : decode cX9_mixGround 86 = .ok (.iload_n 1, 1) := by decide +kernel
theorem dX9_mixGround_87 : decode cX9_mixGround 87 = .ok (.iaload, 1) := by decide +kernel
theorem dX9_mixGround_88 : decode cX9_mixGround 88 = .ok (.iconst 1, 1) := by decide +kernel
theorem dX9_mixGround_89 : decode cX9_mixGround 89 = .ok (.if_icmp .ne 24, 3) := by decide +kernel
theorem dX9_mixGround_92 : decode cX9_mixGround 92 = .ok (.aload_n 0, 1) := by decide +kernel
theorem dX9_mixGround_93 : decode cX9_mixGround 93 = .ok (.aload_n 0, 1) := by decide +kernel
theorem dX9_mixGround_94 : decode cX9_mixGround 94 = .ok (.getfield 56, 3) := by decide +kernel
theorem dX9_mixGround_97 : decode cX9_mixGround 97 = .ok (.bipush 17, 2) := by decide +kernel
theorem dX9_mixGround_99 : decode cX9_mixGround 99 = .ok (.iload_n 1, 1) := by decide +kernel
theorem dX9_mixGround_100 : decode cX9_mixGround 100 = .ok (.imul, 1) := by decide +kernel
theorem dX9_mixGround_101 : decode cX9_mixGround 101 = .ok (.iload_n 2, 1) := by decide +kernel
theorem dX9_mixGround_102 : decode cX9_mixGround 102 = .ok (.iadd, 1) := by decide +kernel
theorem dX9_mixGround_103 : decode cX9_mixGround 103 = .ok (.iaload, 1) := by decide +kernel
theorem dX9_mixGround_104 : decode cX9_mixGround 104 = .ok (.invokevirtual 341, 3) := by decide +kernel
theorem dX9_mixGround_107 : decode cX9_mixGround 107 = .ok (.iinc 2 1, 3) := by decide +kernel
theorem dX9_mixGround_110 : decode cX9_mixGround 110 = .ok (.goto (-36), 3) := by decide +kernel
theorem dX9_mixGround_113 : decode cX9_mixGround 113 = .ok (.aload_n 0, 1) := by decide +kernel
theorem dX9_mixGround_114 : decode cX9_mixGround 114 = .ok (.aload_n 0, 1) := by decide +kernel
theorem dX9_mixGround_115 : decode cX9_mixGround 115 = .ok (.getfield 53, 3) := by decide +kernel
theorem dX9_mixGround_118 : decode cX9_mixGround 118 = .ok (.iload_n 1, 1) := by decide +kernel
theorem dX9_mixGround_119 : decode cX9_mixGround 119 = .ok (.iaload, 1) := by decide +kernel
theorem dX9_mixGround_120 : decode cX9_mixGround 120 = .ok (.iconst 1, 1) := by decide +kernel
theorem dX9_mixGround_121 : decode cX9_mixGround 121 = .ok (.if_icmp .ne 18, 3) := by decide +kernel
theorem dX9_mixGround_124 : decode cX9_mixGround 124 = .ok (.aload_n 0, 1) := by decide +kernel
theorem dX9_mixGround_125 : decode cX9_mixGround 125 = .ok (.getfield 56, 3) := by decide +kernel
theorem dX9_mixGround_128 : decode cX9_mixGround 128 = .ok (.bipush 17, 2) := by decide +kernel
theorem dX9_mixGround_130 : decode cX9_mixGround 130 = .ok (.iload_n 1, 1) := by decide +kernel
theorem dX9_mixGround_131 : decode cX9_mixGround 131 = .ok (.imul, 1) := by decide +kernel
theorem dX9_mixGround_132 : decode cX9_mixGround 132 = .ok (.bipush 16, 2) := by decide +kernel
theorem dX9_mixGround_134 : decode cX9_mixGround 134 = .ok (.iadd, 1) := by decide +kernel
theorem dX9_mixGround_135 : decode cX9_mixGround 135 = .ok (.iaload, 1) := by decide +kernel
theorem dX9_mixGround_136 : decode cX9_mixGround 136 = .ok (.goto 4, 3) := by decide +kernel
theorem dX9_mixGround_139 : decode cX9_mixGround 139 = .ok (.iconst (-1), 1) := by decide +kernel
theorem dX9_mixGround_140 : decode cX9_mixGround 140 = .ok (.invokevirtual 341, 3) := by decide +kernel
theorem dX9_mixGround_143 : decode cX9_mixGround 143 = .ok (.iinc 1 1, 3) := by decide +kernel
theorem dX9_mixGround_146 : decode cX9_mixGround 146 = .ok (.goto (-79), 3) := by decide +kernel
theorem dX9_mixGround_149 : decode cX9_mixGround 149 = .ok (.return_, 1) := by decide +kernel
theorem dX9_digest_0 : decode cX9_digest 0 = .ok (.aload_n 0, 1) := by decide +kernel
theorem dX9_digest_1 : decode cX9_digest 1 = .ok (.ldc2_w 344, 3) := by decide +kernel
theorem dX9_digest_4 : decode cX9_digest 4 = .ok (.putfield 338, 3) := by decide +kernel
theorem dX9_digest_7 : decode cX9_digest 7 = .ok (.iconst 0, 1) := by decide +kernel
theorem dX9_digest_8 : decode cX9_digest 8 = .ok (.istore_n 1, 1) := by decide +kernel
theorem dX9_digest_9 : decode cX9_digest 9 = .ok (.iload_n 1, 1) := by decide +kernel
theorem dX9_digest_10 : decode cX9_digest 10 = .ok (.bipush 9, 2) := by decide +kernel
theorem dX9_digest_12 : decode cX9_digest 12 = .ok (.if_icmp .gt 18, 3) := by decide +kernel
theorem dX9_digest_15 : decode cX9_digest 15 = .ok (.aload_n 0, 1) := by decide +kernel
theorem dX9_digest_16 : decode cX9_digest 16 = .ok (.aload_n 0, 1) := by decide +kernel
theorem dX9_digest_17 : decode cX9_digest 17 = .ok (.iload_n 1, 1) := by decide +kernel
theorem dX9_digest_18 : decode cX9_digest 18 = .ok (.invokevirtual 333, 3) := by decide +kernel
theorem dX9_digest_21 : decode cX9_digest 21 = .ok (.invokevirtual 341, 3) := by decide +kernel
theorem dX9_digest_24 : decode cX9_digest 24 = .ok (.iinc 1 1, 3) := by decide +kernel
theorem dX9_digest_27 : decode cX9_digest 27 = .ok (.goto (-18), 3) := by decide +kernel
theorem dX9_digest_30 : decode cX9_digest 30 = .ok (.aload_n 0, 1) := by decide +kernel
theorem dX9_digest_31 : decode cX9_digest 31 = .ok (.invokevirtual 346, 3) := by decide +kernel
theorem dX9_digest_34 : decode cX9_digest 34 = .ok (.iconst 0, 1) := by decide +kernel
theorem dX9_digest_35 : decode cX9_digest 35 = .ok (.istore_n 1, 1) := by decide +kernel
theorem dX9_digest_36 : decode cX9_digest 36 = .ok (.iload_n 1, 1) := by decide +kernel
theorem dX9_digest_37 : decode cX9_digest 37 = .ok (.bipush 6, 2) := by decide +kernel
theorem dX9_digest_39 : decode cX9_digest 39 = .ok (.if_icmp .ge 60, 3) := by decide +kernel
theorem dX9_digest_42 : decode cX9_digest 42 = .ok (.aload_n 0, 1) := by decide +kernel
theorem dX9_digest_43 : decode cX9_digest 43 = .ok (.aload_n 0, 1) := by decide +kernel
theorem dX9_digest_44 : decode cX9_digest 44 = .ok (.getfield 17, 3) := by decide +kernel
theorem dX9_digest_47 : decode cX9_digest 47 = .ok (.iload_n 1, 1) := by decide +kernel
theorem dX9_digest_48 : decode cX9_digest 48 = .ok (.iaload, 1) := by decide +kernel
theorem dX9_digest_49 : decode cX9_digest 49 = .ok (.ifCond .ge 7, 3) := by decide +kernel
theorem dX9_digest_52 : decode cX9_digest 52 = .ok (.iconst (-1), 1) := by decide +kernel
theorem dX9_digest_53 : decode cX9_digest 53 = .ok (.goto 9, 3) := by decide +kernel
theorem dX9_digest_56 : decode cX9_digest 56 = .ok (.aload_n 0, 1) := by decide +kernel
theorem dX9_digest_57 : decode cX9_digest 57 = .ok (.getfield 17, 3) := by decide +kernel
theorem dX9_digest_60 : decode cX9_digest 60 = .ok (.iload_n 1, 1) := by decide +kernel
theorem dX9_digest_61 : decode cX9_digest 61 = .ok (.iaload, 1) := by decide +kernel
theorem dX9_digest_62 : decode cX9_digest 62 = .ok (.invokevirtual 341, 3) := by decide +kernel
theorem dX9_digest_65 : decode cX9_digest 65 = .ok (.iconst 0, 1) := by decide +kernel
theorem dX9_digest_66 : decode cX9_digest 66 = .ok (.istore_n 2, 1) := by decide +kernel
theorem dX9_digest_67 : decode cX9_digest 67 = .ok (.iload_n 2, 1) := by decide +kernel
theorem dX9_digest_68 : decode cX9_digest 68 = .ok (.aload_n 0, 1) := by decide +kernel
theorem dX9_digest_69 : decode cX9_digest 69 = .ok (.getfield 17, 3) := by decide +kernel
theorem dX9_digest_72 : decode cX9_digest 72 = .ok (.iload_n 1, 1) := by decide +kernel
theorem dX9_digest_73 : decode cX9_digest 73 = .ok (.iaload, 1) := by decide +kernel
theorem dX9_digest_74 : decode cX9_digest 74 = .ok (.if_icmp .ge 19, 3) := by decide +kernel
theorem dX9_digest_77 : decode cX9_digest 77 = .ok (.aload_n 0, 1) := by decide +kernel
theorem dX9_digest_78 : decode cX9_digest 78 = .ok (.aload_n 0, 1) := by decide +kernel
theorem dX9_digest_79 : decode cX9_digest 79 = .ok (.iload_n 1, 1) := by decide +kernel
theorem dX9_digest_80 : decode cX9_digest 80 = .ok (.iload_n 2, 1) := by decide +kernel
theorem dX9_digest_81 : decode cX9_digest 81 = .ok (.invokevirtual 101, 3) := by decide +kernel
theorem dX9_digest_84 : decode cX9_digest 84 = .ok (.invokevirtual 341, 3) := by decide +kernel
theorem dX9_digest_87 : decode cX9_digest 87 = .ok (.iinc 2 1, 3) := by decide +kernel
theorem dX9_digest_90 : decode cX9_digest 90 = .ok (.goto (-23), 3) := by decide +kernel
theorem dX9_digest_93 : decode cX9_digest 93 = .ok (.iinc 1 1, 3) := by decide +kernel
theorem dX9_digest_96 : decode cX9_digest 96 = .ok (.goto (-60), 3) := by decide +kernel
theorem dX9_digest_99 : decode cX9_digest 99 = .ok (.iconst 0, 1) := by decide +kernel
theorem dX9_digest_100 : decode cX9_digest 100 = .ok (.istore_n 1, 1) := by decide +kernel
theorem dX9_digest_101 : decode cX9_digest 101 = .ok (.iload_n 1, 1) := by decide +kernel
theorem dX9_digest_102 : decode cX9_digest 102 = .ok (.iconst 4, 1) := by decide +kernel
theorem dX9_digest_103 : decode cX9_digest 103 = .ok (.if_icmp .ge 65, 3) := by decide +kernel
theorem dX9_digest_106 : decode cX9_digest 106 = .ok (.aload_n 0, 1) := by decide +kernel
theorem dX9_digest_107 : decode cX9_digest 107 = .ok (.aload_n 0, 1) := by decide +kernel
theorem dX9_digest_108 : decode cX9_digest 108 = .ok (.getfield 26, 3) := by decide +kernel
theorem dX9_digest_111 : decode cX9_digest 111 = .ok (.iload_n 1, 1) := by decide +kernel
theorem dX9_digest_112 : decode cX9_digest 112 = .ok (.iaload, 1) := by decide +kernel
theorem dX9_digest_113 : decode cX9_digest 113 = .ok (.ifCond .ge 7, 3) := by decide +kernel
theorem dX9_digest_116 : decode cX9_digest 116 = .ok (.iconst (-1), 1) := by decide +kernel
theorem dX9_digest_117 : decode cX9_digest 117 = .ok (.goto 9, 3) := by decide +kernel
theorem dX9_digest_120 : decode cX9_digest 120 = .ok (.aload_n 0, 1) := by decide +kernel
theorem dX9_digest_121 : decode cX9_digest 121 = .ok (.getfield 26, 3) := by decide +kernel
theorem dX9_digest_124 : decode cX9_digest 124 = .ok (.iload_n 1, 1) := by decide +kernel
theorem dX9_digest_125 : decode cX9_digest 125 = .ok (.iaload, 1) := by decide +kernel
theorem dX9_digest_126 : decode cX9_digest 126 = .ok (.invokevirtual 341, 3) := by decide +kernel
theorem dX9_digest_129 : decode cX9_digest 129 = .ok (.iconst 0, 1) := by decide +kernel
theorem dX9_digest_130 : decode cX9_digest 130 = .ok (.istore_n 2, 1) := by decide +kernel
theorem dX9_digest_131 : decode cX9_digest 131 = .ok (.iload_n 2, 1) := by decide +kernel
theorem dX9_digest_132 : decode cX9_digest 132 = .ok (.aload_n 0, 1) := by decide +kernel
theorem dX9_digest_133 : decode cX9_digest 133 = .ok (.getfield 26, 3) := by decide +kernel
theorem dX9_digest_136 : decode cX9_digest 136 = .ok (.iload_n 1, 1) := by decide +kernel
theorem dX9_digest_137 : decode cX9_digest 137 = .ok (.iaload, 1) := by decide +kernel
theorem dX9_digest_138 : decode cX9_digest 138 = .ok (.if_icmp .ge 24, 3) := by decide +kernel
theorem dX9_digest_141 : decode cX9_digest 141 = .ok (.aload_n 0, 1) := by decide +kernel
theorem dX9_digest_142 : decode cX9_digest 142 = .ok (.aload_n 0, 1) := by decide +kernel
theorem dX9_digest_143 : decode cX9_digest 143 = .ok (.getfield 29, 3) := by decide +kernel
theorem dX9_digest_146 : decode cX9_digest 146 = .ok (.bipush 60, 2) := by decide +kernel
theorem dX9_digest_148 : decode cX9_digest 148 = .ok (.iload_n 1, 1) := by decide +kernel
theorem dX9_digest_149 : decode cX9_digest 149 = .ok (.imul, 1) := by decide +kernel
theorem dX9_digest_150 : decode cX9_digest 150 = .ok (.iload_n 2, 1) := by decide +kernel
theorem dX9_digest_151 : decode cX9_digest 151 = .ok (.iadd, 1) := by decide +kernel
theorem dX9_digest_152 : decode cX9_digest 152 = .ok (.iaload, 1) := by decide +kernel
theorem dX9_digest_153 : decode cX9_digest 153 = .ok (.invokevirtual 341, 3) := by decide +kernel
theorem dX9_digest_156 : decode cX9_digest 156 = .ok (.iinc 2 1, 3) := by decide +kernel
theorem dX9_digest_159 : decode cX9_digest 159 = .ok (.goto (-28), 3) := by decide +kernel
theorem dX9_digest_162 : decode cX9_digest 162 = .ok (.iinc 1 1, 3) := by decide +kernel
theorem dX9_digest_165 : decode cX9_digest 165 = .ok (.goto (-64), 3) := by decide +kernel
theorem dX9_digest_168 : decode cX9_digest 168 = .ok (.aload_n 0, 1) := by decide +kernel
theorem dX9_digest_169 : decode cX9_digest 169 = .ok (.getfield 338, 3) := by decide +kernel
theorem dX9_digest_172 : decode cX9_digest 172 = .ok (.lreturn, 1) := by decide +kernel

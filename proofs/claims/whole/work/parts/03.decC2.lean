theorem dX9_between__2 : decode cX9_between_ 2 = .ok (.iload_n 0, 1) := by decide +kernel
theorem dX9_between__3 : decode cX9_between_ 3 = .ok (.istore 4, 2) := by decide +kernel
theorem dX9_between__5 : decode cX9_between_ 5 = .ok (.iload 4, 2) := by decide +kernel
theorem dX9_between__7 : decode cX9_between_ 7 = .ok (.iload_n 1, 1) := by decide +kernel
theorem dX9_between__8 : decode cX9_between_ 8 = .ok (.if_icmp .gt 18, 3) := by decide +kernel
theorem dX9_between__11 : decode cX9_between_ 11 = .ok (.iload_n 3, 1) := by decide +kernel
theorem dX9_between__12 : decode cX9_between_ 12 = .ok (.iload_n 2, 1) := by decide +kernel
theorem dX9_between__13 : decode cX9_between_ 13 = .ok (.iconst 1, 1) := by decide +kernel
theorem dX9_between__14 : decode cX9_between_ 14 = .ok (.iload 4, 2) := by decide +kernel
theorem dX9_between__16 : decode cX9_between_ 16 = .ok (.ishl, 1) := by decide +kernel
theorem dX9_between__17 : decode cX9_between_ 17 = .ok (.iand, 1) := by decide +kernel
theorem dX9_between__18 : decode cX9_between_ 18 = .ok (.ior, 1) := by decide +kernel
theorem dX9_between__19 : decode cX9_between_ 19 = .ok (.istore_n 3, 1) := by decide +kernel
theorem dX9_between__20 : decode cX9_between_ 20 = .ok (.iinc 4 1, 3) := by decide +kernel
theorem dX9_between__23 : decode cX9_between_ 23 = .ok (.goto (-18), 3) := by decide +kernel
theorem dX9_between__26 : decode cX9_between_ 26 = .ok (.iload_n 3, 1) := by decide +kernel
theorem dX9_between__27 : decode cX9_between_ 27 = .ok (.ireturn, 1) := by decide +kernel
theorem dX9_pushed_0 : decode cX9_pushed 0 = .ok (.aload_n 0, 1) := by decide +kernel
theorem dX9_pushed_1 : decode cX9_pushed 1 = .ok (.getfield 16, 3) := by decide +kernel
theorem dX9_pushed_4 : decode cX9_pushed 4 = .ok (.iconst 1, 1) := by decide +kernel
theorem dX9_pushed_5 : decode cX9_pushed 5 = .ok (.iaload, 1) := by decide +kernel
theorem dX9_pushed_6 : decode cX9_pushed 6 = .ok (.istore_n 3, 1) := by decide +kernel
theorem dX9_pushed_7 : decode cX9_pushed 7 = .ok (.iload_n 3, 1) := by decide +kernel
theorem dX9_pushed_8 : decode cX9_pushed 8 = .ok (.iload_n 1, 1) := by decide +kernel
theorem dX9_pushed_9 : decode cX9_pushed 9 = .ok (.invokestatic 190, 3) := by decide +kernel
theorem dX9_pushed_12 : decode cX9_pushed 12 = .ok (.ifCond .ne 5, 3) := by decide +kernel
theorem dX9_pushed_15 : decode cX9_pushed 15 = .ok (.iconst 0, 1) := by decide +kernel
theorem dX9_pushed_16 : decode cX9_pushed 16 = .ok (.ireturn, 1) := by decide +kernel
theorem dX9_pushed_17 : decode cX9_pushed 17 = .ok (.iload_n 2, 1) := by decide +kernel
theorem dX9_pushed_18 : decode cX9_pushed 18 = .ok (.iconst 1, 1) := by decide +kernel
theorem dX9_pushed_19 : decode cX9_pushed 19 = .ok (.if_icmp .ne 7, 3) := by decide +kernel
theorem dX9_pushed_22 : decode cX9_pushed 22 = .ok (.iload_n 1, 1) := by decide +kernel
theorem dX9_pushed_23 : decode cX9_pushed 23 = .ok (.goto 10, 3) := by decide +kernel
theorem dX9_pushed_26 : decode cX9_pushed 26 = .ok (.aload_n 0, 1) := by decide +kernel
theorem dX9_pushed_27 : decode cX9_pushed 27 = .ok (.iload_n 1, 1) := by decide +kernel
theorem dX9_pushed_28 : decode cX9_pushed 28 = .ok (.iconst (-1), 1) := by decide +kernel
theorem dX9_pushed_29 : decode cX9_pushed 29 = .ok (.iload_n 3, 1) := by decide +kernel
theorem dX9_pushed_30 : decode cX9_pushed 30 = .ok (.invokevirtual 244, 3) := by decide +kernel
theorem dX9_pushed_33 : decode cX9_pushed 33 = .ok (.istore 4, 2) := by decide +kernel
theorem dX9_pushed_35 : decode cX9_pushed 35 = .ok (.iload_n 2, 1) := by decide +kernel
theorem dX9_pushed_36 : decode cX9_pushed 36 = .ok (.iconst 2, 1) := by decide +kernel
theorem dX9_pushed_37 : decode cX9_pushed 37 = .ok (.if_icmp .ne 7, 3) := by decide +kernel
theorem dX9_pushed_40 : decode cX9_pushed 40 = .ok (.iload_n 1, 1) := by decide +kernel
theorem dX9_pushed_41 : decode cX9_pushed 41 = .ok (.goto 10, 3) := by decide +kernel
theorem dX9_pushed_44 : decode cX9_pushed 44 = .ok (.aload_n 0, 1) := by decide +kernel
theorem dX9_pushed_45 : decode cX9_pushed 45 = .ok (.iload_n 1, 1) := by decide +kernel
theorem dX9_pushed_46 : decode cX9_pushed 46 = .ok (.iconst 1, 1) := by decide +kernel
theorem dX9_pushed_47 : decode cX9_pushed 47 = .ok (.iload_n 3, 1) := by decide +kernel
theorem dX9_pushed_48 : decode cX9_pushed 48 = .ok (.invokevirtual 244, 3) := by decide +kernel
theorem dX9_pushed_51 : decode cX9_pushed 51 = .ok (.istore 5, 2) := by decide +kernel
theorem dX9_pushed_53 : decode cX9_pushed 53 = .ok (.iload 4, 2) := by decide +kernel
theorem dX9_pushed_55 : decode cX9_pushed 55 = .ok (.iload 5, 2) := by decide +kernel
theorem dX9_pushed_57 : decode cX9_pushed 57 = .ok (.iload_n 3, 1) := by decide +kernel
theorem dX9_pushed_58 : decode cX9_pushed 58 = .ok (.invokestatic 247, 3) := by decide +kernel
theorem dX9_pushed_61 : decode cX9_pushed 61 = .ok (.ireturn, 1) := by decide +kernel
theorem dX9_push_0 : decode cX9_push 0 = .ok (.iload_n 1, 1) := by decide +kernel
theorem dX9_push_1 : decode cX9_push 1 = .ok (.invokestatic 160, 3) := by decide +kernel
theorem dX9_push_4 : decode cX9_push 4 = .ok (.ifCond .ne 6, 3) := by decide +kernel
theorem dX9_push_7 : decode cX9_push 7 = .ok (.bipush (-5), 2) := by decide +kernel
theorem dX9_push_9 : decode cX9_push 9 = .ok (.ireturn, 1) := by decide +kernel
theorem dX9_push_10 : decode cX9_push 10 = .ok (.iload_n 2, 1) := by decide +kernel
theorem dX9_push_11 : decode cX9_push 11 = .ok (.invokestatic 249, 3) := by decide +kernel
theorem dX9_push_14 : decode cX9_push 14 = .ok (.ifCond .eq 12, 3) := by decide +kernel
theorem dX9_push_17 : decode cX9_push 17 = .ok (.aload_n 0, 1) := by decide +kernel
theorem dX9_push_18 : decode cX9_push 18 = .ok (.iload_n 1, 1) := by decide +kernel
theorem dX9_push_19 : decode cX9_push 19 = .ok (.iload_n 2, 1) := by decide +kernel
theorem dX9_push_20 : decode cX9_push 20 = .ok (.invokevirtual 252, 3) := by decide +kernel
theorem dX9_push_23 : decode cX9_push 23 = .ok (.goto 5, 3) := by decide +kernel
theorem dX9_push_26 : decode cX9_push 26 = .ok (.bipush (-7), 2) := by decide +kernel
theorem dX9_push_28 : decode cX9_push 28 = .ok (.ireturn, 1) := by decide +kernel
theorem dX9_far_0 : decode cX9_far 0 = .ok (.iload_n 1, 1) := by decide +kernel
theorem dX9_far_1 : decode cX9_far 1 = .ok (.iconst 0, 1) := by decide +kernel
theorem dX9_far_2 : decode cX9_far 2 = .ok (.iconst 1, 1) := by decide +kernel
theorem dX9_far_3 : decode cX9_far 3 = .ok (.invokestatic 76, 3) := by decide +kernel
theorem dX9_far_6 : decode cX9_far 6 = .ok (.ifCond .ne 6, 3) := by decide +kernel
theorem dX9_far_9 : decode cX9_far 9 = .ok (.bipush (-2), 2) := by decide +kernel
theorem dX9_far_11 : decode cX9_far 11 = .ok (.ireturn, 1) := by decide +kernel
theorem dX9_far_12 : decode cX9_far 12 = .ok (.iconst (-1), 1) := by decide +kernel
theorem dX9_far_13 : decode cX9_far 13 = .ok (.istore_n 2, 1) := by decide +kernel
theorem dX9_far_14 : decode cX9_far 14 = .ok (.iconst (-1), 1) := by decide +kernel
theorem dX9_far_15 : decode cX9_far 15 = .ok (.istore_n 3, 1) := by decide +kernel
theorem dX9_far_16 : decode cX9_far 16 = .ok (.iconst 0, 1) := by decide +kernel
theorem dX9_far_17 : decode cX9_far 17 = .ok (.istore 4, 2) := by decide +kernel
theorem dX9_far_19 : decode cX9_far 19 = .ok (.iload 4, 2) := by decide +kernel
theorem dX9_far_21 : decode cX9_far 21 = .ok (.bipush 16, 2) := by decide +kernel
theorem dX9_far_23 : decode cX9_far 23 = .ok (.if_icmp .ge 61, 3) := by decide +kernel
theorem dX9_far_26 : decode cX9_far 26 = .ok (.aload_n 0, 1) := by decide +kernel
theorem dX9_far_27 : decode cX9_far 27 = .ok (.getfield 16, 3) := by decide +kernel
theorem dX9_far_30 : decode cX9_far 30 = .ok (.iconst 1, 1) := by decide +kernel
theorem dX9_far_31 : decode cX9_far 31 = .ok (.iaload, 1) := by decide +kernel
theorem dX9_far_32 : decode cX9_far 32 = .ok (.iload 4, 2) := by decide +kernel
theorem dX9_far_34 : decode cX9_far 34 = .ok (.invokestatic 190, 3) := by decide +kernel
theorem dX9_far_37 : decode cX9_far 37 = .ok (.ifCond .eq 41, 3) := by decide +kernel
theorem dX9_far_40 : decode cX9_far 40 = .ok (.aload_n 0, 1) := by decide +kernel
theorem dX9_far_41 : decode cX9_far 41 = .ok (.iload 4, 2) := by decide +kernel
theorem dX9_far_43 : decode cX9_far 43 = .ok (.iconst 1, 1) := by decide +kernel
theorem dX9_far_44 : decode cX9_far 44 = .ok (.invokevirtual 252, 3) := by decide +kernel
theorem dX9_far_47 : decode cX9_far 47 = .ok (.invokestatic 151, 3) := by decide +kernel
theorem dX9_far_50 : decode cX9_far 50 = .ok (.istore 5, 2) := by decide +kernel
theorem dX9_far_52 : decode cX9_far 52 = .ok (.iload 5, 2) := by decide +kernel
theorem dX9_far_54 : decode cX9_far 54 = .ok (.iload_n 3, 1) := by decide +kernel
theorem dX9_far_55 : decode cX9_far 55 = .ok (.if_icmp .le 8, 3) := by decide +kernel
theorem dX9_far_58 : decode cX9_far 58 = .ok (.iload 4, 2) := by decide +kernel
theorem dX9_far_60 : decode cX9_far 60 = .ok (.goto 4, 3) := by decide +kernel
theorem dX9_far_63 : decode cX9_far 63 = .ok (.iload_n 2, 1) := by decide +kernel
theorem dX9_far_64 : decode cX9_far 64 = .ok (.istore_n 2, 1) := by decide +kernel
theorem dX9_far_65 : decode cX9_far 65 = .ok (.iload 5, 2) := by decide +kernel
theorem dX9_far_67 : decode cX9_far 67 = .ok (.iload_n 3, 1) := by decide +kernel
theorem dX9_far_68 : decode cX9_far 68 = .ok (.if_icmp .le 8, 3) := by decide +kernel
theorem dX9_far_71 : decode cX9_far 71 = .ok (.iload 5, 2) := by decide +kernel
theorem dX9_far_73 : decode cX9_far 73 = .ok (.goto 4, 3) := by decide +kernel
theorem dX9_far_76 : decode cX9_far 76 = .ok (.iload_n 3, 1) := by decide +kernel
theorem dX9_far_77 : decode cX9_far 77 = .ok (.istore_n 3, 1) := by decide +kernel
theorem dX9_far_78 : decode cX9_far 78 = .ok (.iinc 4 1, 3) := by decide +kernel
theorem dX9_far_81 : decode cX9_far 81 = .ok (.goto (-62), 3) := by decide +kernel
theorem dX9_far_84 : decode cX9_far 84 = .ok (.iload_n 1, 1) := by decide +kernel
theorem dX9_far_85 : decode cX9_far 85 = .ok (.ifCond .ne 7, 3) := by decide +kernel
theorem dX9_far_88 : decode cX9_far 88 = .ok (.iload_n 2, 1) := by decide +kernel
theorem dX9_far_89 : decode cX9_far 89 = .ok (.goto 4, 3) := by decide +kernel
theorem dX9_far_92 : decode cX9_far 92 = .ok (.iload_n 3, 1) := by decide +kernel
theorem dX9_far_93 : decode cX9_far 93 = .ok (.ireturn, 1) := by decide +kernel
theorem dX9_tip_0 : decode cX9_tip 0 = .ok (.iload_n 1, 1) := by decide +kernel
theorem dX9_tip_1 : decode cX9_tip 1 = .ok (.invokestatic 160, 3) := by decide +kernel
theorem dX9_tip_4 : decode cX9_tip 4 = .ok (.ifCond .ne 6, 3) := by decide +kernel
theorem dX9_tip_7 : decode cX9_tip 7 = .ok (.bipush (-5), 2) := by decide +kernel
theorem dX9_tip_9 : decode cX9_tip 9 = .ok (.ireturn, 1) := by decide +kernel
theorem dX9_tip_10 : decode cX9_tip 10 = .ok (.iload_n 2, 1) := by decide +kernel
theorem dX9_tip_11 : decode cX9_tip 11 = .ok (.invokestatic 249, 3) := by decide +kernel
theorem dX9_tip_14 : decode cX9_tip 14 = .ok (.ifCond .ne 6, 3) := by decide +kernel
theorem dX9_tip_17 : decode cX9_tip 17 = .ok (.bipush (-7), 2) := by decide +kernel
theorem dX9_tip_19 : decode cX9_tip 19 = .ok (.ireturn, 1) := by decide +kernel
theorem dX9_tip_20 : decode cX9_tip 20 = .ok (.aload_n 0, 1) := by decide +kernel
theorem dX9_tip_21 : decode cX9_tip 21 = .ok (.iload_n 1, 1) := by decide +kernel
theorem dX9_tip_22 : decode cX9_tip 22 = .ok (.iload_n 2, 1) := by decide +kernel
theorem dX9_tip_23 : decode cX9_tip 23 = .ok (.invokevirtual 252, 3) := by decide +kernel
theorem dX9_tip_26 : decode cX9_tip 26 = .ok (.istore_n 3, 1) := by decide +kernel
theorem dX9_tip_27 : decode cX9_tip 27 = .ok (.aload_n 0, 1) := by decide +kernel
theorem dX9_tip_28 : decode cX9_tip 28 = .ok (.getfield 16, 3) := by decide +kernel
theorem dX9_tip_31 : decode cX9_tip 31 = .ok (.iconst 1, 1) := by decide +kernel
theorem dX9_tip_32 : decode cX9_tip 32 = .ok (.dup2, 1) := by decide +kernel
theorem dX9_tip_33 : decode cX9_tip 33 = .ok (.iaload, 1) := by decide +kernel
theorem dX9_tip_34 : decode cX9_tip 34 = .ok (.iload_n 3, 1) := by decide +kernel
theorem dX9_tip_35 : decode cX9_tip 35 = .ok (.iconst (-1), 1) := by decide +kernel
theorem dX9_tip_36 : decode cX9_tip 36 = .ok (.ixor, 1) := by decide +kernel
theorem dX9_tip_37 : decode cX9_tip 37 = .ok (.iand, 1) := by decide +kernel
theorem dX9_tip_38 : decode cX9_tip 38 = .ok (.iastore, 1) := by decide +kernel
theorem dX9_tip_39 : decode cX9_tip 39 = .ok (.iload_n 3, 1) := by decide +kernel
theorem dX9_tip_40 : decode cX9_tip 40 = .ok (.invokestatic 151, 3) := by decide +kernel
theorem dX9_tip_43 : decode cX9_tip 43 = .ok (.ireturn, 1) := by decide +kernel
theorem dX9_putsUp_0 : decode cX9_putsUp 0 = .ok (.aload_n 0, 1) := by decide +kernel
theorem dX9_putsUp_1 : decode cX9_putsUp 1 = .ok (.iload_n 1, 1) := by decide +kernel
theorem dX9_putsUp_2 : decode cX9_putsUp 2 = .ok (.iconst (-1), 1) := by decide +kernel
theorem dX9_putsUp_3 : decode cX9_putsUp 3 = .ok (.aload_n 0, 1) := by decide +kernel
theorem dX9_putsUp_4 : decode cX9_putsUp 4 = .ok (.getfield 255, 3) := by decide +kernel
theorem dX9_putsUp_7 : decode cX9_putsUp 7 = .ok (.invokevirtual 244, 3) := by decide +kernel
theorem dX9_putsUp_10 : decode cX9_putsUp 10 = .ok (.aload_n 0, 1) := by decide +kernel
theorem dX9_putsUp_11 : decode cX9_putsUp 11 = .ok (.iload_n 1, 1) := by decide +kernel
theorem dX9_putsUp_12 : decode cX9_putsUp 12 = .ok (.iconst 1, 1) := by decide +kernel
theorem dX9_putsUp_13 : decode cX9_putsUp 13 = .ok (.aload_n 0, 1) := by decide +kernel
theorem dX9_putsUp_14 : decode cX9_putsUp 14 = .ok (.getfield 255, 3) := by decide +kernel
theorem dX9_putsUp_17 : decode cX9_putsUp 17 = .ok (.invokevirtual 244, 3) := by decide +kernel
theorem dX9_putsUp_20 : decode cX9_putsUp 20 = .ok (.aload_n 0, 1) := by decide +kernel
theorem dX9_putsUp_21 : decode cX9_putsUp 21 = .ok (.getfield 255, 3) := by decide +kernel
theorem dX9_putsUp_24 : decode cX9_putsUp 24 = .ok (.invokestatic 247, 3) := by decide +kernel
theorem dX9_putsUp_27 : decode cX9_putsUp 27 = .ok (.istore 4, 2) := by decide +kernel
theorem dX9_putsUp_29 : decode cX9_putsUp 29 = .ok (.iload 4, 2) := by decide +kernel
theorem dX9_putsUp_31 : decode cX9_putsUp 31 = .ok (.invokestatic 151, 3) := by decide +kernel
theorem dX9_putsUp_34 : decode cX9_putsUp 34 = .ok (.istore 5, 2) := by decide +kernel
theorem dX9_putsUp_36 : decode cX9_putsUp 36 = .ok (.lload_n 2, 1) := by decide +kernel
theorem dX9_putsUp_37 : decode cX9_putsUp 37 = .ok (.ldc2_w 205, 3) := by decide +kernel
theorem dX9_putsUp_40 : decode cX9_putsUp 40 = .ok (.lrem, 1) := by decide +kernel
theorem dX9_putsUp_41 : decode cX9_putsUp 41 = .ok (.aload_n 0, 1) := by decide +kernel
theorem dX9_putsUp_42 : decode cX9_putsUp 42 = .ok (.iload_n 1, 1) := by decide +kernel
theorem dX9_putsUp_43 : decode cX9_putsUp 43 = .ok (.iload 5, 2) := by decide +kernel
theorem dX9_putsUp_45 : decode cX9_putsUp 45 = .ok (.invokevirtual 166, 3) := by decide +kernel
theorem dX9_putsUp_48 : decode cX9_putsUp 48 = .ok (.i2l, 1) := by decide +kernel
theorem dX9_putsUp_49 : decode cX9_putsUp 49 = .ok (.lcmp, 1) := by decide +kernel
theorem dX9_putsUp_50 : decode cX9_putsUp 50 = .ok (.ifCond .ge 19, 3) := by decide +kernel
theorem dX9_putsUp_53 : decode cX9_putsUp 53 = .ok (.aload_n 0, 1) := by decide +kernel
theorem dX9_putsUp_54 : decode cX9_putsUp 54 = .ok (.dup, 1) := by decide +kernel
theorem dX9_putsUp_55 : decode cX9_putsUp 55 = .ok (.getfield 255, 3) := by decide +kernel
theorem dX9_putsUp_58 : decode cX9_putsUp 58 = .ok (.iload 4, 2) := by decide +kernel
theorem dX9_putsUp_60 : decode cX9_putsUp 60 = .ok (.iconst (-1), 1) := by decide +kernel
theorem dX9_putsUp_61 : decode cX9_putsUp 61 = .ok (.ixor, 1) := by decide +kernel
theorem dX9_putsUp_62 : decode cX9_putsUp 62 = .ok (.iand, 1) := by decide +kernel
theorem dX9_putsUp_63 : decode cX9_putsUp 63 = .ok (.putfield 255, 3) := by decide +kernel
theorem dX9_putsUp_66 : decode cX9_putsUp 66 = .ok (.iload 5, 2) := by decide +kernel
theorem dX9_putsUp_68 : decode cX9_putsUp 68 = .ok (.ireturn, 1) := by decide +kernel
theorem dX9_putsUp_69 : decode cX9_putsUp 69 = .ok (.aload_n 0, 1) := by decide +kernel
theorem dX9_putsUp_70 : decode cX9_putsUp 70 = .ok (.dup, 1) := by decide +kernel
theorem dX9_putsUp_71 : decode cX9_putsUp 71 = .ok (.getfield 255, 3) := by decide +kernel
theorem dX9_putsUp_74 : decode cX9_putsUp 74 = .ok (.iconst 1, 1) := by decide +kernel
theorem dX9_putsUp_75 : decode cX9_putsUp 75 = .ok (.iload_n 1, 1) := by decide +kernel
theorem dX9_putsUp_76 : decode cX9_putsUp 76 = .ok (.ishl, 1) := by decide +kernel
theorem dX9_putsUp_77 : decode cX9_putsUp 77 = .ok (.ior, 1) := by decide +kernel
theorem dX9_putsUp_78 : decode cX9_putsUp 78 = .ok (.putfield 255, 3) := by decide +kernel
theorem dX9_putsUp_81 : decode cX9_putsUp 81 = .ok (.iconst (-1), 1) := by decide +kernel
theorem dX9_putsUp_82 : decode cX9_putsUp 82 = .ok (.ireturn, 1) := by decide +kernel
theorem dX9_put_0 : decode cX9_put 0 = .ok (.iload_n 1, 1) := by decide +kernel
theorem dX9_put_1 : decode cX9_put 1 = .ok (.invokestatic 160, 3) := by decide +kernel
theorem dX9_put_4 : decode cX9_put 4 = .ok (.ifCond .ne 6, 3) := by decide +kernel
theorem dX9_put_7 : decode cX9_put 7 = .ok (.bipush (-5), 2) := by decide +kernel
theorem dX9_put_9 : decode cX9_put 9 = .ok (.ireturn, 1) := by decide +kernel
theorem dX9_put_10 : decode cX9_put 10 = .ok (.iload_n 2, 1) := by decide +kernel
theorem dX9_put_11 : decode cX9_put 11 = .ok (.iconst 0, 1) := by decide +kernel
theorem dX9_put_12 : decode cX9_put 12 = .ok (.ldc_w 258, 3) := by decide +kernel
theorem dX9_put_15 : decode cX9_put 15 = .ok (.invokestatic 76, 3) := by decide +kernel
theorem dX9_put_18 : decode cX9_put 18 = .ok (.ifCond .ne 6, 3) := by decide +kernel
theorem dX9_put_21 : decode cX9_put 21 = .ok (.bipush (-7), 2) := by decide +kernel
theorem dX9_put_23 : decode cX9_put 23 = .ok (.ireturn, 1) := by decide +kernel
theorem dX9_put_24 : decode cX9_put 24 = .ok (.aload_n 0, 1) := by decide +kernel
theorem dX9_put_25 : decode cX9_put 25 = .ok (.getfield 16, 3) := by decide +kernel
theorem dX9_put_28 : decode cX9_put 28 = .ok (.iconst 1, 1) := by decide +kernel
theorem dX9_put_29 : decode cX9_put 29 = .ok (.iaload, 1) := by decide +kernel
theorem dX9_put_30 : decode cX9_put 30 = .ok (.iload_n 1, 1) := by decide +kernel
theorem dX9_put_31 : decode cX9_put 31 = .ok (.invokestatic 190, 3) := by decide +kernel
theorem dX9_put_34 : decode cX9_put 34 = .ok (.ifCond .eq 6, 3) := by decide +kernel
theorem dX9_put_37 : decode cX9_put 37 = .ok (.bipush (-3), 2) := by decide +kernel
theorem dX9_put_39 : decode cX9_put 39 = .ok (.ireturn, 1) := by decide +kernel
theorem dX9_put_40 : decode cX9_put 40 = .ok (.aload_n 0, 1) := by decide +kernel
theorem dX9_put_41 : decode cX9_put 41 = .ok (.aload_n 0, 1) := by decide +kernel
theorem dX9_put_42 : decode cX9_put 42 = .ok (.getfield 16, 3) := by decide +kernel
theorem dX9_put_45 : decode cX9_put 45 = .ok (.iconst 1, 1) := by decide +kernel
theorem dX9_put_46 : decode cX9_put 46 = .ok (.iaload, 1) := by decide +kernel
theorem dX9_put_47 : decode cX9_put 47 = .ok (.putfield 255, 3) := by decide +kernel
theorem dX9_put_50 : decode cX9_put 50 = .ok (.aload_n 0, 1) := by decide +kernel
theorem dX9_put_51 : decode cX9_put 51 = .ok (.iload_n 1, 1) := by decide +kernel
theorem dX9_put_52 : decode cX9_put 52 = .ok (.iload_n 2, 1) := by decide +kernel
theorem dX9_put_53 : decode cX9_put 53 = .ok (.i2l, 1) := by decide +kernel
theorem dX9_put_54 : decode cX9_put 54 = .ok (.lconst 1, 1) := by decide +kernel
theorem dX9_put_55 : decode cX9_put 55 = .ok (.ladd, 1) := by decide +kernel
theorem dX9_put_56 : decode cX9_put 56 = .ok (.ldc2_w 259, 3) := by decide +kernel
theorem dX9_put_59 : decode cX9_put 59 = .ok (.lmul, 1) := by decide +kernel
theorem dX9_put_60 : decode cX9_put 60 = .ok (.ldc2_w 261, 3) := by decide +kernel
theorem dX9_put_63 : decode cX9_put 63 = .ok (.lrem, 1) := by decide +kernel
theorem dX9_put_64 : decode cX9_put 64 = .ok (.invokevirtual 263, 3) := by decide +kernel
theorem dX9_put_67 : decode cX9_put 67 = .ok (.istore_n 3, 1) := by decide +kernel
theorem dX9_put_68 : decode cX9_put 68 = .ok (.aload_n 0, 1) := by decide +kernel
theorem dX9_put_69 : decode cX9_put 69 = .ok (.getfield 16, 3) := by decide +kernel
theorem dX9_put_72 : decode cX9_put 72 = .ok (.iconst 1, 1) := by decide +kernel
theorem dX9_put_73 : decode cX9_put 73 = .ok (.aload_n 0, 1) := by decide +kernel
theorem dX9_put_74 : decode cX9_put 74 = .ok (.getfield 255, 3) := by decide +kernel
theorem dX9_put_77 : decode cX9_put 77 = .ok (.iastore, 1) := by decide +kernel
theorem dX9_put_78 : decode cX9_put 78 = .ok (.iload_n 3, 1) := by decide +kernel
theorem dX9_put_79 : decode cX9_put 79 = .ok (.ireturn, 1) := by decide +kernel
theorem dX9_rowOf_0 : decode cX9_rowOf 0 = .ok (.iload_n 1, 1) := by decide +kernel
theorem dX9_rowOf_1 : decode cX9_rowOf 1 = .ok (.i2l, 1) := by decide +kernel
theorem dX9_rowOf_2 : decode cX9_rowOf 2 = .ok (.lconst 1, 1) := by decide +kernel
theorem dX9_rowOf_3 : decode cX9_rowOf 3 = .ok (.ladd, 1) := by decide +kernel
theorem dX9_rowOf_4 : decode cX9_rowOf 4 = .ok (.lstore_n 3, 1) := by decide +kernel
theorem dX9_rowOf_5 : decode cX9_rowOf 5 = .ok (.aload_n 0, 1) := by decide +kernel
theorem dX9_rowOf_6 : decode cX9_rowOf 6 = .ok (.aload_n 0, 1) := by decide +kernel
theorem dX9_rowOf_7 : decode cX9_rowOf 7 = .ok (.getfield 16, 3) := by decide +kernel
theorem dX9_rowOf_10 : decode cX9_rowOf 10 = .ok (.iconst 0, 1) := by decide +kernel
theorem dX9_rowOf_11 : decode cX9_rowOf 11 = .ok (.iaload, 1) := by decide +kernel
theorem dX9_rowOf_12 : decode cX9_rowOf 12 = .ok (.aload_n 0, 1) := by decide +kernel
theorem dX9_rowOf_13 : decode cX9_rowOf 13 = .ok (.getfield 16, 3) := by decide +kernel
theorem dX9_rowOf_16 : decode cX9_rowOf 16 = .ok (.iconst 2, 1) := by decide +kernel
theorem dX9_rowOf_17 : decode cX9_rowOf 17 = .ok (.iaload, 1) := by decide +kernel
theorem dX9_rowOf_18 : decode cX9_rowOf 18 = .ok (.invokevirtual 198, 3) := by decide +kernel
theorem dX9_rowOf_21 : decode cX9_rowOf 21 = .ok (.iconst 0, 1) := by decide +kernel
theorem dX9_rowOf_22 : decode cX9_rowOf 22 = .ok (.istore 5, 2) := by decide +kernel
theorem dX9_rowOf_24 : decode cX9_rowOf 24 = .ok (.iload 5, 2) := by decide +kernel
theorem dX9_rowOf_26 : decode cX9_rowOf 26 = .ok (.bipush 16, 2) := by decide +kernel
theorem dX9_rowOf_28 : decode cX9_rowOf 28 = .ok (.if_icmp .ge 30, 3) := by decide +kernel
theorem dX9_rowOf_31 : decode cX9_rowOf 31 = .ok (.aload_n 0, 1) := by decide +kernel
theorem dX9_rowOf_32 : decode cX9_rowOf 32 = .ok (.getfield 16, 3) := by decide +kernel
theorem dX9_rowOf_35 : decode cX9_rowOf 35 = .ok (.iconst 0, 1) := by decide +kernel
theorem dX9_rowOf_36 : decode cX9_rowOf 36 = .ok (.iaload, 1) := by decide +kernel
theorem dX9_rowOf_37 : decode cX9_rowOf 37 = .ok (.iload 5, 2) := by decide +kernel
theorem dX9_rowOf_39 : decode cX9_rowOf 39 = .ok (.invokestatic 190, 3) := by decide +kernel
theorem dX9_rowOf_42 : decode cX9_rowOf 42 = .ok (.ifCond .eq 10, 3) := by decide +kernel
theorem dX9_rowOf_45 : decode cX9_rowOf 45 = .ok (.aload_n 0, 1) := by decide +kernel
theorem dX9_rowOf_46 : decode cX9_rowOf 46 = .ok (.iload 5, 2) := by decide +kernel
theorem dX9_rowOf_48 : decode cX9_rowOf 48 = .ok (.iconst 0, 1) := by decide +kernel
theorem dX9_rowOf_49 : decode cX9_rowOf 49 = .ok (.invokevirtual 187, 3) := by decide +kernel
theorem dX9_rowOf_52 : decode cX9_rowOf 52 = .ok (.iinc 5 1, 3) := by decide +kernel
theorem dX9_rowOf_55 : decode cX9_rowOf 55 = .ok (.goto (-31), 3) := by decide +kernel
theorem dX9_rowOf_58 : decode cX9_rowOf 58 = .ok (.aload_n 0, 1) := by decide +kernel
theorem dX9_rowOf_59 : decode cX9_rowOf 59 = .ok (.aload_n 0, 1) := by decide +kernel
theorem dX9_rowOf_60 : decode cX9_rowOf 60 = .ok (.getfield 16, 3) := by decide +kernel
theorem dX9_rowOf_63 : decode cX9_rowOf 63 = .ok (.iconst 1, 1) := by decide +kernel
theorem dX9_rowOf_64 : decode cX9_rowOf 64 = .ok (.iaload, 1) := by decide +kernel
theorem dX9_rowOf_65 : decode cX9_rowOf 65 = .ok (.putfield 255, 3) := by decide +kernel
theorem dX9_rowOf_68 : decode cX9_rowOf 68 = .ok (.aload_n 0, 1) := by decide +kernel
theorem dX9_rowOf_69 : decode cX9_rowOf 69 = .ok (.iconst 0, 1) := by decide +kernel
theorem dX9_rowOf_70 : decode cX9_rowOf 70 = .ok (.putfield 267, 3) := by decide +kernel
theorem dX9_rowOf_73 : decode cX9_rowOf 73 = .ok (.aload_n 0, 1) := by decide +kernel
theorem dX9_rowOf_74 : decode cX9_rowOf 74 = .ok (.iconst 0, 1) := by decide +kernel
theorem dX9_rowOf_75 : decode cX9_rowOf 75 = .ok (.putfield 270, 3) := by decide +kernel
theorem dX9_rowOf_78 : decode cX9_rowOf 78 = .ok (.aload_n 0, 1) := by decide +kernel
theorem dX9_rowOf_79 : decode cX9_rowOf 79 = .ok (.getfield 255, 3) := by decide +kernel
theorem dX9_rowOf_82 : decode cX9_rowOf 82 = .ok (.ldc 86, 2) := by decide +kernel
theorem dX9_rowOf_84 : decode cX9_rowOf 84 = .ok (.if_icmp .eq 90, 3) := by decide +kernel
theorem dX9_rowOf_87 : decode cX9_rowOf 87 = .ok (.aload_n 0, 1) := by decide +kernel
theorem dX9_rowOf_88 : decode cX9_rowOf 88 = .ok (.getfield 267, 3) := by decide +kernel
theorem dX9_rowOf_91 : decode cX9_rowOf 91 = .ok (.iload_n 2, 1) := by decide +kernel
theorem dX9_rowOf_92 : decode cX9_rowOf 92 = .ok (.if_icmp .ge 82, 3) := by decide +kernel
theorem dX9_rowOf_95 : decode cX9_rowOf 95 = .ok (.iconst 0, 1) := by decide +kernel
theorem dX9_rowOf_96 : decode cX9_rowOf 96 = .ok (.istore 5, 2) := by decide +kernel
theorem dX9_rowOf_98 : decode cX9_rowOf 98 = .ok (.aload_n 0, 1) := by decide +kernel
theorem dX9_rowOf_99 : decode cX9_rowOf 99 = .ok (.getfield 255, 3) := by decide +kernel
theorem dX9_rowOf_102 : decode cX9_rowOf 102 = .ok (.aload_n 0, 1) := by decide +kernel
theorem dX9_rowOf_103 : decode cX9_rowOf 103 = .ok (.getfield 55, 3) := by decide +kernel
theorem dX9_rowOf_106 : decode cX9_rowOf 106 = .ok (.iload 5, 2) := by decide +kernel
theorem dX9_rowOf_108 : decode cX9_rowOf 108 = .ok (.iaload, 1) := by decide +kernel
theorem dX9_rowOf_109 : decode cX9_rowOf 109 = .ok (.invokestatic 190, 3) := by decide +kernel
theorem dX9_rowOf_112 : decode cX9_rowOf 112 = .ok (.ifCond .eq 9, 3) := by decide +kernel
theorem dX9_rowOf_115 : decode cX9_rowOf 115 = .ok (.iinc 5 1, 3) := by decide +kernel
theorem dX9_rowOf_118 : decode cX9_rowOf 118 = .ok (.goto (-20), 3) := by decide +kernel
theorem dX9_rowOf_121 : decode cX9_rowOf 121 = .ok (.lload_n 3, 1) := by decide +kernel
theorem dX9_rowOf_122 : decode cX9_rowOf 122 = .ok (.ldc2_w 259, 3) := by decide +kernel
theorem dX9_rowOf_125 : decode cX9_rowOf 125 = .ok (.lmul, 1) := by decide +kernel
theorem dX9_rowOf_126 : decode cX9_rowOf 126 = .ok (.ldc2_w 261, 3) := by decide +kernel
theorem dX9_rowOf_129 : decode cX9_rowOf 129 = .ok (.lrem, 1) := by decide +kernel
theorem dX9_rowOf_130 : decode cX9_rowOf 130 = .ok (.lstore_n 3, 1) := by decide +kernel
theorem dX9_rowOf_131 : decode cX9_rowOf 131 = .ok (.aload_n 0, 1) := by decide +kernel
theorem dX9_rowOf_132 : decode cX9_rowOf 132 = .ok (.dup, 1) := by decide +kernel
theorem dX9_rowOf_133 : decode cX9_rowOf 133 = .ok (.getfield 267, 3) := by decide +kernel
theorem dX9_rowOf_136 : decode cX9_rowOf 136 = .ok (.iconst 1, 1) := by decide +kernel
theorem dX9_rowOf_137 : decode cX9_rowOf 137 = .ok (.iadd, 1) := by decide +kernel
theorem dX9_rowOf_138 : decode cX9_rowOf 138 = .ok (.putfield 267, 3) := by decide +kernel
theorem dX9_rowOf_141 : decode cX9_rowOf 141 = .ok (.aload_n 0, 1) := by decide +kernel
theorem dX9_rowOf_142 : decode cX9_rowOf 142 = .ok (.dup, 1) := by decide +kernel
theorem dX9_rowOf_143 : decode cX9_rowOf 143 = .ok (.getfield 270, 3) := by decide +kernel
theorem dX9_rowOf_146 : decode cX9_rowOf 146 = .ok (.aload_n 0, 1) := by decide +kernel
theorem dX9_rowOf_147 : decode cX9_rowOf 147 = .ok (.aload_n 0, 1) := by decide +kernel
theorem dX9_rowOf_148 : decode cX9_rowOf 148 = .ok (.getfield 55, 3) := by decide +kernel
theorem dX9_rowOf_151 : decode cX9_rowOf 151 = .ok (.iload 5, 2) := by decide +kernel
theorem dX9_rowOf_153 : decode cX9_rowOf 153 = .ok (.iaload, 1) := by decide +kernel
theorem dX9_rowOf_154 : decode cX9_rowOf 154 = .ok (.lload_n 3, 1) := by decide +kernel
theorem dX9_rowOf_155 : decode cX9_rowOf 155 = .ok (.invokevirtual 263, 3) := by decide +kernel
theorem dX9_rowOf_158 : decode cX9_rowOf 158 = .ok (.iconst (-1), 1) := by decide +kernel
theorem dX9_rowOf_159 : decode cX9_rowOf 159 = .ok (.if_icmp .ne 7, 3) := by decide +kernel
theorem dX9_rowOf_162 : decode cX9_rowOf 162 = .ok (.iconst 0, 1) := by decide +kernel
theorem dX9_rowOf_163 : decode cX9_rowOf 163 = .ok (.goto 4, 3) := by decide +kernel
theorem dX9_rowOf_166 : decode cX9_rowOf 166 = .ok (.iconst 1, 1) := by decide +kernel
theorem dX9_rowOf_167 : decode cX9_rowOf 167 = .ok (.iadd, 1) := by decide +kernel
theorem dX9_rowOf_168 : decode cX9_rowOf 168 = .ok (.putfield 270, 3) := by decide +kernel
theorem dX9_rowOf_171 : decode cX9_rowOf 171 = .ok (.goto (-93), 3) := by decide +kernel
theorem dX9_rowOf_174 : decode cX9_rowOf 174 = .ok (.return_, 1) := by decide +kernel
theorem dX9_drawn_0 : decode cX9_drawn 0 = .ok (.iload_n 1, 1) := by decide +kernel
theorem dX9_drawn_1 : decode cX9_drawn 1 = .ok (.iconst 0, 1) := by decide +kernel
theorem dX9_drawn_2 : decode cX9_drawn 2 = .ok (.ldc_w 258, 3) := by decide +kernel
theorem dX9_drawn_5 : decode cX9_drawn 5 = .ok (.invokestatic 76, 3) := by decide +kernel
theorem dX9_drawn_8 : decode cX9_drawn 8 = .ok (.ifCond .eq 23, 3) := by decide +kernel
theorem dX9_drawn_11 : decode cX9_drawn 11 = .ok (.iload_n 2, 1) := by decide +kernel
theorem dX9_drawn_12 : decode cX9_drawn 12 = .ok (.iconst 0, 1) := by decide +kernel
theorem dX9_drawn_13 : decode cX9_drawn 13 = .ok (.sipush 400, 3) := by decide +kernel
theorem dX9_drawn_16 : decode cX9_drawn 16 = .ok (.invokestatic 76, 3) := by decide +kernel
theorem dX9_drawn_19 : decode cX9_drawn 19 = .ok (.ifCond .eq 12, 3) := by decide +kernel
theorem dX9_drawn_22 : decode cX9_drawn 22 = .ok (.iload_n 3, 1) := by decide +kernel
theorem dX9_drawn_23 : decode cX9_drawn 23 = .ok (.iconst 0, 1) := by decide +kernel
theorem dX9_drawn_24 : decode cX9_drawn 24 = .ok (.iconst 2, 1) := by decide +kernel
theorem dX9_drawn_25 : decode cX9_drawn 25 = .ok (.invokestatic 76, 3) := by decide +kernel
theorem dX9_drawn_28 : decode cX9_drawn 28 = .ok (.ifCond .ne 6, 3) := by decide +kernel
theorem dX9_drawn_31 : decode cX9_drawn 31 = .ok (.bipush (-2), 2) := by decide +kernel
theorem dX9_drawn_33 : decode cX9_drawn 33 = .ok (.ireturn, 1) := by decide +kernel
theorem dX9_drawn_34 : decode cX9_drawn 34 = .ok (.aload_n 0, 1) := by decide +kernel
theorem dX9_drawn_35 : decode cX9_drawn 35 = .ok (.iload_n 1, 1) := by decide +kernel
theorem dX9_drawn_36 : decode cX9_drawn 36 = .ok (.iload_n 2, 1) := by decide +kernel
theorem dX9_drawn_37 : decode cX9_drawn 37 = .ok (.invokevirtual 273, 3) := by decide +kernel
theorem dX9_drawn_40 : decode cX9_drawn 40 = .ok (.iload_n 3, 1) := by decide +kernel
theorem dX9_drawn_41 : decode cX9_drawn 41 = .ok (.ifCond .ne 10, 3) := by decide +kernel
theorem dX9_drawn_44 : decode cX9_drawn 44 = .ok (.aload_n 0, 1) := by decide +kernel
theorem dX9_drawn_45 : decode cX9_drawn 45 = .ok (.getfield 267, 3) := by decide +kernel
theorem dX9_drawn_48 : decode cX9_drawn 48 = .ok (.goto 19, 3) := by decide +kernel
theorem dX9_drawn_51 : decode cX9_drawn 51 = .ok (.iload_n 3, 1) := by decide +kernel
theorem dX9_drawn_52 : decode cX9_drawn 52 = .ok (.iconst 1, 1) := by decide +kernel
theorem dX9_drawn_53 : decode cX9_drawn 53 = .ok (.if_icmp .ne 10, 3) := by decide +kernel
theorem dX9_drawn_56 : decode cX9_drawn 56 = .ok (.aload_n 0, 1) := by decide +kernel
theorem dX9_drawn_57 : decode cX9_drawn 57 = .ok (.getfield 255, 3) := by decide +kernel
theorem dX9_drawn_60 : decode cX9_drawn 60 = .ok (.goto 7, 3) := by decide +kernel
theorem dX9_drawn_63 : decode cX9_drawn 63 = .ok (.aload_n 0, 1) := by decide +kernel
theorem dX9_drawn_64 : decode cX9_drawn 64 = .ok (.getfield 270, 3) := by decide +kernel
theorem dX9_drawn_67 : decode cX9_drawn 67 = .ok (.ireturn, 1) := by decide +kernel
theorem dX9_lowest_0 : decode cX9_lowest 0 = .ok (.lload_n 0, 1) := by decide +kernel
theorem dX9_lowest_1 : decode cX9_lowest 1 = .ok (.lconst 0, 1) := by decide +kernel
theorem dX9_lowest_2 : decode cX9_lowest 2 = .ok (.lcmp, 1) := by decide +kernel
theorem dX9_lowest_3 : decode cX9_lowest 3 = .ok (.ifCond .ne 7, 3) := by decide +kernel
theorem dX9_lowest_6 : decode cX9_lowest 6 = .ok (.iload 4, 2) := by decide +kernel
theorem dX9_lowest_8 : decode cX9_lowest 8 = .ok (.i2l, 1) := by decide +kernel
theorem dX9_lowest_9 : decode cX9_lowest 9 = .ok (.lreturn, 1) := by decide +kernel
theorem dX9_lowest_10 : decode cX9_lowest 10 = .ok (.lload_n 0, 1) := by decide +kernel
theorem dX9_lowest_11 : decode cX9_lowest 11 = .ok (.lstore 5, 2) := by decide +kernel
theorem dX9_lowest_13 : decode cX9_lowest 13 = .ok (.lload_n 2, 1) := by decide +kernel
theorem dX9_lowest_14 : decode cX9_lowest 14 = .ok (.lstore 7, 2) := by decide +kernel
theorem dX9_lowest_16 : decode cX9_lowest 16 = .ok (.lload 7, 2) := by decide +kernel
theorem dX9_lowest_18 : decode cX9_lowest 18 = .ok (.lconst 0, 1) := by decide +kernel
theorem dX9_lowest_19 : decode cX9_lowest 19 = .ok (.lcmp, 1) := by decide +kernel
theorem dX9_lowest_20 : decode cX9_lowest 20 = .ok (.ifCond .eq 21, 3) := by decide +kernel
theorem dX9_lowest_23 : decode cX9_lowest 23 = .ok (.lload 5, 2) := by decide +kernel
theorem dX9_lowest_25 : decode cX9_lowest 25 = .ok (.lload 7, 2) := by decide +kernel
theorem dX9_lowest_27 : decode cX9_lowest 27 = .ok (.lrem, 1) := by decide +kernel
theorem dX9_lowest_28 : decode cX9_lowest 28 = .ok (.lstore 9, 2) := by decide +kernel
theorem dX9_lowest_30 : decode cX9_lowest 30 = .ok (.lload 7, 2) := by decide +kernel
theorem dX9_lowest_32 : decode cX9_lowest 32 = .ok (.lstore 5, 2) := by decide +kernel
theorem dX9_lowest_34 : decode cX9_lowest 34 = .ok (.lload 9, 2) := by decide +kernel
theorem dX9_lowest_36 : decode cX9_lowest 36 = .ok (.lstore 7, 2) := by decide +kernel
theorem dX9_lowest_38 : decode cX9_lowest 38 = .ok (.goto (-22), 3) := by decide +kernel
theorem dX9_lowest_41 : decode cX9_lowest 41 = .ok (.iload 4, 2) := by decide +kernel
theorem dX9_lowest_43 : decode cX9_lowest 43 = .ok (.ifCond .ne 7, 3) := by decide +kernel
theorem dX9_lowest_46 : decode cX9_lowest 46 = .ok (.lload_n 0, 1) := by decide +kernel
theorem dX9_lowest_47 : decode cX9_lowest 47 = .ok (.goto 4, 3) := by decide +kernel
theorem dX9_lowest_50 : decode cX9_lowest 50 = .ok (.lload_n 2, 1) := by decide +kernel
theorem dX9_lowest_51 : decode cX9_lowest 51 = .ok (.lload 5, 2) := by decide +kernel
theorem dX9_lowest_53 : decode cX9_lowest 53 = .ok (.ldiv, 1) := by decide +kernel
theorem dX9_lowest_54 : decode cX9_lowest 54 = .ok (.lreturn, 1) := by decide +kernel
theorem dX9_odds_0 : decode cX9_odds 0 = .ok (.iload_n 1, 1) := by decide +kernel
theorem dX9_odds_1 : decode cX9_odds 1 = .ok (.iconst 0, 1) := by decide +kernel
theorem dX9_odds_2 : decode cX9_odds 2 = .ok (.ldc_w 258, 3) := by decide +kernel
theorem dX9_odds_5 : decode cX9_odds 5 = .ok (.invokestatic 76, 3) := by decide +kernel
theorem dX9_odds_8 : decode cX9_odds 8 = .ok (.ifCond .eq 34, 3) := by decide +kernel
theorem dX9_odds_11 : decode cX9_odds 11 = .ok (.iload_n 2, 1) := by decide +kernel
theorem dX9_odds_12 : decode cX9_odds 12 = .ok (.iconst 1, 1) := by decide +kernel
theorem dX9_odds_13 : decode cX9_odds 13 = .ok (.bipush 20, 2) := by decide +kernel
theorem dX9_odds_15 : decode cX9_odds 15 = .ok (.invokestatic 76, 3) := by decide +kernel
theorem dX9_odds_18 : decode cX9_odds 18 = .ok (.ifCond .eq 24, 3) := by decide +kernel
theorem dX9_odds_21 : decode cX9_odds 21 = .ok (.iload_n 3, 1) := by decide +kernel
theorem dX9_odds_22 : decode cX9_odds 22 = .ok (.iconst 0, 1) := by decide +kernel
theorem dX9_odds_23 : decode cX9_odds 23 = .ok (.sipush 400, 3) := by decide +kernel
theorem dX9_odds_26 : decode cX9_odds 26 = .ok (.invokestatic 76, 3) := by decide +kernel
theorem dX9_odds_29 : decode cX9_odds 29 = .ok (.ifCond .eq 13, 3) := by decide +kernel
theorem dX9_odds_32 : decode cX9_odds 32 = .ok (.iload 4, 2) := by decide +kernel
theorem dX9_odds_34 : decode cX9_odds 34 = .ok (.iconst 0, 1) := by decide +kernel
theorem dX9_odds_35 : decode cX9_odds 35 = .ok (.iconst 1, 1) := by decide +kernel
theorem dX9_odds_36 : decode cX9_odds 36 = .ok (.invokestatic 76, 3) := by decide +kernel
theorem dX9_odds_39 : decode cX9_odds 39 = .ok (.ifCond .ne 7, 3) := by decide +kernel
theorem dX9_odds_42 : decode cX9_odds 42 = .ok (.ldc2_w 230, 3) := by decide +kernel
theorem dX9_odds_45 : decode cX9_odds 45 = .ok (.lreturn, 1) := by decide +kernel
theorem dX9_odds_46 : decode cX9_odds 46 = .ok (.lconst 0, 1) := by decide +kernel
theorem dX9_odds_47 : decode cX9_odds 47 = .ok (.lstore 5, 2) := by decide +kernel
theorem dX9_odds_49 : decode cX9_odds 49 = .ok (.iconst 0, 1) := by decide +kernel
theorem dX9_odds_50 : decode cX9_odds 50 = .ok (.istore 7, 2) := by decide +kernel
theorem dX9_odds_52 : decode cX9_odds 52 = .ok (.iload 7, 2) := by decide +kernel
theorem dX9_odds_54 : decode cX9_odds 54 = .ok (.iload_n 2, 1) := by decide +kernel
theorem dX9_odds_55 : decode cX9_odds 55 = .ok (.if_icmp .ge 37, 3) := by decide +kernel
theorem dX9_odds_58 : decode cX9_odds 58 = .ok (.aload_n 0, 1) := by decide +kernel
theorem dX9_odds_59 : decode cX9_odds 59 = .ok (.iload_n 1, 1) := by decide +kernel
theorem dX9_odds_60 : decode cX9_odds 60 = .ok (.iload 7, 2) := by decide +kernel
theorem dX9_odds_62 : decode cX9_odds 62 = .ok (.iadd, 1) := by decide +kernel
theorem dX9_odds_63 : decode cX9_odds 63 = .ok (.iload_n 3, 1) := by decide +kernel
theorem dX9_odds_64 : decode cX9_odds 64 = .ok (.invokevirtual 273, 3) := by decide +kernel
theorem dX9_odds_67 : decode cX9_odds 67 = .ok (.lload 5, 2) := by decide +kernel
theorem dX9_odds_69 : decode cX9_odds 69 = .ok (.aload_n 0, 1) := by decide +kernel
theorem dX9_odds_70 : decode cX9_odds 70 = .ok (.getfield 255, 3) := by decide +kernel
theorem dX9_odds_73 : decode cX9_odds 73 = .ok (.ldc 86, 2) := by decide +kernel
theorem dX9_odds_75 : decode cX9_odds 75 = .ok (.if_icmp .ne 7, 3) := by decide +kernel
theorem dX9_odds_78 : decode cX9_odds 78 = .ok (.lconst 1, 1) := by decide +kernel
theorem dX9_odds_79 : decode cX9_odds 79 = .ok (.goto 4, 3) := by decide +kernel
theorem dX9_odds_82 : decode cX9_odds 82 = .ok (.lconst 0, 1) := by decide +kernel
theorem dX9_odds_83 : decode cX9_odds 83 = .ok (.ladd, 1) := by decide +kernel
theorem dX9_odds_84 : decode cX9_odds 84 = .ok (.lstore 5, 2) := by decide +kernel
theorem dX9_odds_86 : decode cX9_odds 86 = .ok (.iinc 7 1, 3) := by decide +kernel
theorem dX9_odds_89 : decode cX9_odds 89 = .ok (.goto (-37), 3) := by decide +kernel
theorem dX9_odds_92 : decode cX9_odds 92 = .ok (.lload 5, 2) := by decide +kernel
theorem dX9_odds_94 : decode cX9_odds 94 = .ok (.iload_n 2, 1) := by decide +kernel
theorem dX9_odds_95 : decode cX9_odds 95 = .ok (.i2l, 1) := by decide +kernel
theorem dX9_odds_96 : decode cX9_odds 96 = .ok (.iload 4, 2) := by decide +kernel
theorem dX9_odds_98 : decode cX9_odds 98 = .ok (.invokestatic 276, 3) := by decide +kernel
theorem dX9_odds_101 : decode cX9_odds 101 = .ok (.lreturn, 1) := by decide +kernel
theorem dX9_sheetWrong_0 : decode cX9_sheetWrong 0 = .ok (.iload_n 1, 1) := by decide +kernel
theorem dX9_sheetWrong_1 : decode cX9_sheetWrong 1 = .ok (.iconst 0, 1) := by decide +kernel
theorem dX9_sheetWrong_2 : decode cX9_sheetWrong 2 = .ok (.iconst 3, 1) := by decide +kernel
theorem dX9_sheetWrong_3 : decode cX9_sheetWrong 3 = .ok (.invokestatic 76, 3) := by decide +kernel
theorem dX9_sheetWrong_6 : decode cX9_sheetWrong 6 = .ok (.ifCond .ne 6, 3) := by decide +kernel
theorem dX9_sheetWrong_9 : decode cX9_sheetWrong 9 = .ok (.bipush (-2), 2) := by decide +kernel
theorem dX9_sheetWrong_11 : decode cX9_sheetWrong 11 = .ok (.ireturn, 1) := by decide +kernel
theorem dX9_sheetWrong_12 : decode cX9_sheetWrong 12 = .ok (.aload_n 0, 1) := by decide +kernel
theorem dX9_sheetWrong_13 : decode cX9_sheetWrong 13 = .ok (.getfield 31, 3) := by decide +kernel
theorem dX9_sheetWrong_16 : decode cX9_sheetWrong 16 = .ok (.iload_n 1, 1) := by decide +kernel
theorem dX9_sheetWrong_17 : decode cX9_sheetWrong 17 = .ok (.iaload, 1) := by decide +kernel
theorem dX9_sheetWrong_18 : decode cX9_sheetWrong 18 = .ok (.iconst (-1), 1) := by decide +kernel
theorem dX9_sheetWrong_19 : decode cX9_sheetWrong 19 = .ok (.if_icmp .ne 6, 3) := by decide +kernel
theorem dX9_sheetWrong_22 : decode cX9_sheetWrong 22 = .ok (.bipush (-11), 2) := by decide +kernel
theorem dX9_sheetWrong_24 : decode cX9_sheetWrong 24 = .ok (.ireturn, 1) := by decide +kernel
theorem dX9_sheetWrong_25 : decode cX9_sheetWrong 25 = .ok (.aload_n 0, 1) := by decide +kernel
theorem dX9_sheetWrong_26 : decode cX9_sheetWrong 26 = .ok (.getfield 34, 3) := by decide +kernel
theorem dX9_sheetWrong_29 : decode cX9_sheetWrong 29 = .ok (.iload_n 1, 1) := by decide +kernel
theorem dX9_sheetWrong_30 : decode cX9_sheetWrong 30 = .ok (.iaload, 1) := by decide +kernel
theorem dX9_sheetWrong_31 : decode cX9_sheetWrong 31 = .ok (.bipush 16, 2) := by decide +kernel
theorem dX9_sheetWrong_33 : decode cX9_sheetWrong 33 = .ok (.if_icmp .ne 7, 3) := by decide +kernel
theorem dX9_sheetWrong_36 : decode cX9_sheetWrong 36 = .ok (.iconst 0, 1) := by decide +kernel
theorem dX9_sheetWrong_37 : decode cX9_sheetWrong 37 = .ok (.goto 5, 3) := by decide +kernel
theorem dX9_sheetWrong_40 : decode cX9_sheetWrong 40 = .ok (.bipush (-2), 2) := by decide +kernel
theorem dX9_sheetWrong_42 : decode cX9_sheetWrong 42 = .ok (.ireturn, 1) := by decide +kernel
theorem dX9_unlike_0 : decode cX9_unlike 0 = .ok (.iconst 0, 1) := by decide +kernel
theorem dX9_unlike_1 : decode cX9_unlike 1 = .ok (.istore_n 3, 1) := by decide +kernel
theorem dX9_unlike_2 : decode cX9_unlike 2 = .ok (.iload_n 3, 1) := by decide +kernel
theorem dX9_unlike_3 : decode cX9_unlike 3 = .ok (.bipush 16, 2) := by decide +kernel
theorem dX9_unlike_5 : decode cX9_unlike 5 = .ok (.if_icmp .ge 38, 3) := by decide +kernel
theorem dX9_unlike_8 : decode cX9_unlike 8 = .ok (.aload_n 0, 1) := by decide +kernel
theorem dX9_unlike_9 : decode cX9_unlike 9 = .ok (.getfield 37, 3) := by decide +kernel
theorem dX9_unlike_12 : decode cX9_unlike 12 = .ok (.bipush 40, 2) := by decide +kernel
theorem dX9_unlike_14 : decode cX9_unlike 14 = .ok (.iload_n 1, 1) := by decide +kernel
theorem dX9_unlike_15 : decode cX9_unlike 15 = .ok (.imul, 1) := by decide +kernel
theorem dX9_unlike_16 : decode cX9_unlike 16 = .ok (.iload_n 3, 1) := by decide +kernel
theorem dX9_unlike_17 : decode cX9_unlike 17 = .ok (.iadd, 1) := by decide +kernel
theorem dX9_unlike_18 : decode cX9_unlike 18 = .ok (.iaload, 1) := by decide +kernel
theorem dX9_unlike_19 : decode cX9_unlike 19 = .ok (.iload_n 2, 1) := by decide +kernel
theorem dX9_unlike_20 : decode cX9_unlike 20 = .ok (.iload_n 3, 1) := by decide +kernel
theorem dX9_unlike_21 : decode cX9_unlike 21 = .ok (.invokestatic 190, 3) := by decide +kernel
theorem dX9_unlike_24 : decode cX9_unlike 24 = .ok (.ifCond .eq 7, 3) := by decide +kernel
theorem dX9_unlike_27 : decode cX9_unlike 27 = .ok (.iconst 1, 1) := by decide +kernel
theorem dX9_unlike_28 : decode cX9_unlike 28 = .ok (.goto 4, 3) := by decide +kernel
theorem dX9_unlike_31 : decode cX9_unlike 31 = .ok (.iconst 0, 1) := by decide +kernel
theorem dX9_unlike_32 : decode cX9_unlike 32 = .ok (.if_icmp .eq 5, 3) := by decide +kernel
theorem dX9_unlike_35 : decode cX9_unlike 35 = .ok (.iload_n 3, 1) := by decide +kernel
theorem dX9_unlike_36 : decode cX9_unlike 36 = .ok (.ireturn, 1) := by decide +kernel
theorem dX9_unlike_37 : decode cX9_unlike 37 = .ok (.iinc 3 1, 3) := by decide +kernel
theorem dX9_unlike_40 : decode cX9_unlike 40 = .ok (.goto (-38), 3) := by decide +kernel
theorem dX9_unlike_43 : decode cX9_unlike 43 = .ok (.iconst (-1), 1) := by decide +kernel
theorem dX9_unlike_44 : decode cX9_unlike 44 = .ok (.ireturn, 1) := by decide +kernel
theorem dX9_judge_0 : decode cX9_judge 0 = .ok (.aload_n 0, 1) := by decide +kernel
theorem dX9_judge_1 : decode cX9_judge 1 = .ok (.iload_n 1, 1) := by decide +kernel
theorem dX9_judge_2 : decode cX9_judge 2 = .ok (.invokevirtual 280, 3) := by decide +kernel
theorem dX9_judge_5 : decode cX9_judge 5 = .ok (.istore 4, 2) := by decide +kernel
theorem dX9_judge_7 : decode cX9_judge 7 = .ok (.iload 4, 2) := by decide +kernel
theorem dX9_judge_9 : decode cX9_judge 9 = .ok (.ifCond .eq 6, 3) := by decide +kernel
theorem dX9_judge_12 : decode cX9_judge 12 = .ok (.iload 4, 2) := by decide +kernel
theorem dX9_judge_14 : decode cX9_judge 14 = .ok (.ireturn, 1) := by decide +kernel
theorem dX9_judge_15 : decode cX9_judge 15 = .ok (.iload_n 2, 1) := by decide +kernel
theorem dX9_judge_16 : decode cX9_judge 16 = .ok (.invokestatic 160, 3) := by decide +kernel
theorem dX9_judge_19 : decode cX9_judge 19 = .ok (.ifCond .ne 6, 3) := by decide +kernel
theorem dX9_judge_22 : decode cX9_judge 22 = .ok (.bipush (-5), 2) := by decide +kernel
theorem dX9_judge_24 : decode cX9_judge 24 = .ok (.ireturn, 1) := by decide +kernel
theorem dX9_judge_25 : decode cX9_judge 25 = .ok (.iload_n 3, 1) := by decide +kernel
theorem dX9_judge_26 : decode cX9_judge 26 = .ok (.invokestatic 249, 3) := by decide +kernel
theorem dX9_judge_29 : decode cX9_judge 29 = .ok (.ifCond .eq 17, 3) := by decide +kernel
theorem dX9_judge_32 : decode cX9_judge 32 = .ok (.aload_n 0, 1) := by decide +kernel
theorem dX9_judge_33 : decode cX9_judge 33 = .ok (.iload_n 1, 1) := by decide +kernel
theorem dX9_judge_34 : decode cX9_judge 34 = .ok (.aload_n 0, 1) := by decide +kernel
theorem dX9_judge_35 : decode cX9_judge 35 = .ok (.iload_n 2, 1) := by decide +kernel
theorem dX9_judge_36 : decode cX9_judge 36 = .ok (.iload_n 3, 1) := by decide +kernel
theorem dX9_judge_37 : decode cX9_judge 37 = .ok (.invokevirtual 252, 3) := by decide +kernel
theorem dX9_judge_40 : decode cX9_judge 40 = .ok (.invokevirtual 283, 3) := by decide +kernel
theorem dX9_judge_43 : decode cX9_judge 43 = .ok (.goto 5, 3) := by decide +kernel
theorem dX9_judge_46 : decode cX9_judge 46 = .ok (.bipush (-7), 2) := by decide +kernel
theorem dX9_judge_48 : decode cX9_judge 48 = .ok (.ireturn, 1) := by decide +kernel
theorem dX9_origin_0 : decode cX9_origin 0 = .ok (.aload_n 0, 1) := by decide +kernel
theorem dX9_origin_1 : decode cX9_origin 1 = .ok (.iload_n 1, 1) := by decide +kernel
theorem dX9_origin_2 : decode cX9_origin 2 = .ok (.invokevirtual 280, 3) := by decide +kernel
theorem dX9_origin_5 : decode cX9_origin 5 = .ok (.istore_n 3, 1) := by decide +kernel
theorem dX9_origin_6 : decode cX9_origin 6 = .ok (.iload_n 3, 1) := by decide +kernel
theorem dX9_origin_7 : decode cX9_origin 7 = .ok (.ifCond .eq 5, 3) := by decide +kernel
theorem dX9_origin_10 : decode cX9_origin 10 = .ok (.iload_n 3, 1) := by decide +kernel
theorem dX9_origin_11 : decode cX9_origin 11 = .ok (.ireturn, 1) := by decide +kernel
theorem dX9_origin_12 : decode cX9_origin 12 = .ok (.iload_n 2, 1) := by decide +kernel
theorem dX9_origin_13 : decode cX9_origin 13 = .ok (.invokestatic 249, 3) := by decide +kernel
theorem dX9_origin_16 : decode cX9_origin 16 = .ok (.ifCond .ne 6, 3) := by decide +kernel
theorem dX9_origin_19 : decode cX9_origin 19 = .ok (.bipush (-7), 2) := by decide +kernel
theorem dX9_origin_21 : decode cX9_origin 21 = .ok (.ireturn, 1) := by decide +kernel
theorem dX9_origin_22 : decode cX9_origin 22 = .ok (.iconst 0, 1) := by decide +kernel
theorem dX9_origin_23 : decode cX9_origin 23 = .ok (.istore 4, 2) := by decide +kernel
theorem dX9_origin_25 : decode cX9_origin 25 = .ok (.iconst 0, 1) := by decide +kernel
theorem dX9_origin_26 : decode cX9_origin 26 = .ok (.istore 5, 2) := by decide +kernel
theorem dX9_origin_28 : decode cX9_origin 28 = .ok (.iload 5, 2) := by decide +kernel
theorem dX9_origin_30 : decode cX9_origin 30 = .ok (.bipush 16, 2) := by decide +kernel
theorem dX9_origin_32 : decode cX9_origin 32 = .ok (.if_icmp .ge 64, 3) := by decide +kernel
theorem dX9_origin_35 : decode cX9_origin 35 = .ok (.aload_n 0, 1) := by decide +kernel
theorem dX9_origin_36 : decode cX9_origin 36 = .ok (.getfield 16, 3) := by decide +kernel
theorem dX9_origin_39 : decode cX9_origin 39 = .ok (.iconst 1, 1) := by decide +kernel
theorem dX9_origin_40 : decode cX9_origin 40 = .ok (.iaload, 1) := by decide +kernel
theorem dX9_origin_41 : decode cX9_origin 41 = .ok (.iload 5, 2) := by decide +kernel
theorem dX9_origin_43 : decode cX9_origin 43 = .ok (.invokestatic 190, 3) := by decide +kernel
theorem dX9_origin_46 : decode cX9_origin 46 = .ok (.ifCond .eq 23, 3) := by decide +kernel
theorem dX9_origin_49 : decode cX9_origin 49 = .ok (.aload_n 0, 1) := by decide +kernel
theorem dX9_origin_50 : decode cX9_origin 50 = .ok (.iload_n 1, 1) := by decide +kernel
theorem dX9_origin_51 : decode cX9_origin 51 = .ok (.aload_n 0, 1) := by decide +kernel
theorem dX9_origin_52 : decode cX9_origin 52 = .ok (.iload 5, 2) := by decide +kernel
theorem dX9_origin_54 : decode cX9_origin 54 = .ok (.iload_n 2, 1) := by decide +kernel
theorem dX9_origin_55 : decode cX9_origin 55 = .ok (.invokevirtual 252, 3) := by decide +kernel
theorem dX9_origin_58 : decode cX9_origin 58 = .ok (.invokevirtual 283, 3) := by decide +kernel
theorem dX9_origin_61 : decode cX9_origin 61 = .ok (.iconst (-1), 1) := by decide +kernel
theorem dX9_origin_62 : decode cX9_origin 62 = .ok (.if_icmp .ne 7, 3) := by decide +kernel
theorem dX9_origin_65 : decode cX9_origin 65 = .ok (.iconst 1, 1) := by decide +kernel
theorem dX9_origin_66 : decode cX9_origin 66 = .ok (.goto 4, 3) := by decide +kernel
theorem dX9_origin_69 : decode cX9_origin 69 = .ok (.iconst 0, 1) := by decide +kernel
theorem dX9_origin_70 : decode cX9_origin 70 = .ok (.istore 6, 2) := by decide +kernel
theorem dX9_origin_72 : decode cX9_origin 72 = .ok (.iload 4, 2) := by decide +kernel
theorem dX9_origin_74 : decode cX9_origin 74 = .ok (.iload 6, 2) := by decide +kernel
theorem dX9_origin_76 : decode cX9_origin 76 = .ok (.ifCond .eq 10, 3) := by decide +kernel
theorem dX9_origin_79 : decode cX9_origin 79 = .ok (.iconst 1, 1) := by decide +kernel
theorem dX9_origin_80 : decode cX9_origin 80 = .ok (.iload 5, 2) := by decide +kernel
theorem dX9_origin_82 : decode cX9_origin 82 = .ok (.ishl, 1) := by decide +kernel
theorem dX9_origin_83 : decode cX9_origin 83 = .ok (.goto 4, 3) := by decide +kernel
theorem dX9_origin_86 : decode cX9_origin 86 = .ok (.iconst 0, 1) := by decide +kernel
theorem dX9_origin_87 : decode cX9_origin 87 = .ok (.ior, 1) := by decide +kernel
theorem dX9_origin_88 : decode cX9_origin 88 = .ok (.istore 4, 2) := by decide +kernel
theorem dX9_origin_90 : decode cX9_origin 90 = .ok (.iinc 5 1, 3) := by decide +kernel
theorem dX9_origin_93 : decode cX9_origin 93 = .ok (.goto (-65), 3) := by decide +kernel
theorem dX9_origin_96 : decode cX9_origin 96 = .ok (.iload 4, 2) := by decide +kernel
theorem dX9_origin_98 : decode cX9_origin 98 = .ok (.ireturn, 1) := by decide +kernel
theorem dX9_how_0 : decode cX9_how 0 = .ok (.aload_n 0, 1) := by decide +kernel
theorem dX9_how_1 : decode cX9_how 1 = .ok (.iload_n 1, 1) := by decide +kernel
theorem dX9_how_2 : decode cX9_how 2 = .ok (.invokevirtual 280, 3) := by decide +kernel
theorem dX9_how_5 : decode cX9_how 5 = .ok (.istore 4, 2) := by decide +kernel
theorem dX9_how_7 : decode cX9_how 7 = .ok (.iload 4, 2) := by decide +kernel
theorem dX9_how_9 : decode cX9_how 9 = .ok (.ifCond .eq 6, 3) := by decide +kernel
theorem dX9_how_12 : decode cX9_how 12 = .ok (.iload 4, 2) := by decide +kernel
theorem dX9_how_14 : decode cX9_how 14 = .ok (.ireturn, 1) := by decide +kernel
theorem dX9_how_15 : decode cX9_how 15 = .ok (.iload_n 2, 1) := by decide +kernel
theorem dX9_how_16 : decode cX9_how 16 = .ok (.invokestatic 160, 3) := by decide +kernel
theorem dX9_how_19 : decode cX9_how 19 = .ok (.ifCond .ne 6, 3) := by decide +kernel
theorem dX9_how_22 : decode cX9_how 22 = .ok (.bipush (-5), 2) := by decide +kernel
theorem dX9_how_24 : decode cX9_how 24 = .ok (.ireturn, 1) := by decide +kernel
theorem dX9_how_25 : decode cX9_how 25 = .ok (.iload_n 3, 1) := by decide +kernel
theorem dX9_how_26 : decode cX9_how 26 = .ok (.iconst 0, 1) := by decide +kernel
theorem dX9_how_27 : decode cX9_how 27 = .ok (.bipush 12, 2) := by decide +kernel
theorem dX9_how_29 : decode cX9_how 29 = .ok (.invokestatic 76, 3) := by decide +kernel
theorem dX9_how_32 : decode cX9_how 32 = .ok (.ifCond .eq 11, 3) := by decide +kernel
theorem dX9_how_35 : decode cX9_how 35 = .ok (.iload_n 3, 1) := by decide +kernel
theorem dX9_how_36 : decode cX9_how 36 = .ok (.bipush 10, 2) := by decide +kernel
theorem dX9_how_38 : decode cX9_how 38 = .ok (.irem, 1) := by decide +kernel
theorem dX9_how_39 : decode cX9_how 39 = .ok (.iconst 2, 1) := by decide +kernel
theorem dX9_how_40 : decode cX9_how 40 = .ok (.if_icmp .le 6, 3) := by decide +kernel
theorem dX9_how_43 : decode cX9_how 43 = .ok (.bipush (-7), 2) := by decide +kernel
theorem dX9_how_45 : decode cX9_how 45 = .ok (.ireturn, 1) := by decide +kernel
theorem dX9_how_46 : decode cX9_how 46 = .ok (.aload_n 0, 1) := by decide +kernel
theorem dX9_how_47 : decode cX9_how 47 = .ok (.getfield 16, 3) := by decide +kernel
theorem dX9_how_50 : decode cX9_how 50 = .ok (.iconst 3, 1) := by decide +kernel
theorem dX9_how_51 : decode cX9_how 51 = .ok (.iaload, 1) := by decide +kernel
theorem dX9_how_52 : decode cX9_how 52 = .ok (.istore 5, 2) := by decide +kernel
theorem dX9_how_54 : decode cX9_how 54 = .ok (.iconst 0, 1) := by decide +kernel
theorem dX9_how_55 : decode cX9_how 55 = .ok (.istore 6, 2) := by decide +kernel
theorem dX9_how_57 : decode cX9_how 57 = .ok (.iconst 0, 1) := by decide +kernel
theorem dX9_how_58 : decode cX9_how 58 = .ok (.istore 7, 2) := by decide +kernel
theorem dX9_how_60 : decode cX9_how 60 = .ok (.iload 7, 2) := by decide +kernel
theorem dX9_how_62 : decode cX9_how 62 = .ok (.iconst 3, 1) := by decide +kernel
theorem dX9_how_63 : decode cX9_how 63 = .ok (.if_icmp .ge 70, 3) := by decide +kernel
theorem dX9_how_66 : decode cX9_how 66 = .ok (.aload_n 0, 1) := by decide +kernel
theorem dX9_how_67 : decode cX9_how 67 = .ok (.getfield 16, 3) := by decide +kernel
theorem dX9_how_70 : decode cX9_how 70 = .ok (.iconst 3, 1) := by decide +kernel
theorem dX9_how_71 : decode cX9_how 71 = .ok (.iload_n 3, 1) := by decide +kernel
theorem dX9_how_72 : decode cX9_how 72 = .ok (.bipush 10, 2) := by decide +kernel
theorem dX9_how_74 : decode cX9_how 74 = .ok (.if_icmp .ge 8, 3) := by decide +kernel
theorem dX9_how_77 : decode cX9_how 77 = .ok (.iload 5, 2) := by decide +kernel
theorem dX9_how_79 : decode cX9_how 79 = .ok (.goto 5, 3) := by decide +kernel
theorem dX9_how_82 : decode cX9_how 82 = .ok (.iload 7, 2) := by decide +kernel
theorem dX9_how_84 : decode cX9_how 84 = .ok (.iastore, 1) := by decide +kernel
theorem dX9_how_85 : decode cX9_how 85 = .ok (.iload 6, 2) := by decide +kernel
theorem dX9_how_87 : decode cX9_how 87 = .ok (.aload_n 0, 1) := by decide +kernel
theorem dX9_how_88 : decode cX9_how 88 = .ok (.iload_n 1, 1) := by decide +kernel
theorem dX9_how_89 : decode cX9_how 89 = .ok (.aload_n 0, 1) := by decide +kernel
theorem dX9_how_90 : decode cX9_how 90 = .ok (.iload_n 2, 1) := by decide +kernel
theorem dX9_how_91 : decode cX9_how 91 = .ok (.iload_n 3, 1) := by decide +kernel
theorem dX9_how_92 : decode cX9_how 92 = .ok (.bipush 10, 2) := by decide +kernel
theorem dX9_how_94 : decode cX9_how 94 = .ok (.if_icmp .ge 8, 3) := by decide +kernel
theorem dX9_how_97 : decode cX9_how 97 = .ok (.iload 7, 2) := by decide +kernel
theorem dX9_how_99 : decode cX9_how 99 = .ok (.goto 7, 3) := by decide +kernel
theorem dX9_how_102 : decode cX9_how 102 = .ok (.iload_n 3, 1) := by decide +kernel
theorem dX9_how_103 : decode cX9_how 103 = .ok (.bipush 10, 2) := by decide +kernel
theorem dX9_how_105 : decode cX9_how 105 = .ok (.irem, 1) := by decide +kernel
theorem dX9_how_106 : decode cX9_how 106 = .ok (.invokevirtual 252, 3) := by decide +kernel
theorem dX9_how_109 : decode cX9_how 109 = .ok (.invokevirtual 283, 3) := by decide +kernel
theorem dX9_how_112 : decode cX9_how 112 = .ok (.iconst (-1), 1) := by decide +kernel
theorem dX9_how_113 : decode cX9_how 113 = .ok (.if_icmp .ne 10, 3) := by decide +kernel
theorem dX9_how_116 : decode cX9_how 116 = .ok (.iconst 1, 1) := by decide +kernel
theorem dX9_how_117 : decode cX9_how 117 = .ok (.iload 7, 2) := by decide +kernel
theorem dX9_how_119 : decode cX9_how 119 = .ok (.ishl, 1) := by decide +kernel
theorem dX9_how_120 : decode cX9_how 120 = .ok (.goto 4, 3) := by decide +kernel
theorem dX9_how_123 : decode cX9_how 123 = .ok (.iconst 0, 1) := by decide +kernel
theorem dX9_how_124 : decode cX9_how 124 = .ok (.ior, 1) := by decide +kernel
theorem dX9_how_125 : decode cX9_how 125 = .ok (.istore 6, 2) := by decide +kernel
theorem dX9_how_127 : decode cX9_how 127 = .ok (.iinc 7 1, 3) := by decide +kernel
theorem dX9_how_130 : decode cX9_how 130 = .ok (.goto (-70), 3) := by decide +kernel
theorem dX9_how_133 : decode cX9_how 133 = .ok (.aload_n 0, 1) := by decide +kernel
theorem dX9_how_134 : decode cX9_how 134 = .ok (.getfield 16, 3) := by decide +kernel
theorem dX9_how_137 : decode cX9_how 137 = .ok (.iconst 3, 1) := by decide +kernel
theorem dX9_how_138 : decode cX9_how 138 = .ok (.iload 5, 2) := by decide +kernel
theorem dX9_how_140 : decode cX9_how 140 = .ok (.iastore, 1) := by decide +kernel
theorem dX9_how_141 : decode cX9_how 141 = .ok (.iload 6, 2) := by decide +kernel
theorem dX9_how_143 : decode cX9_how 143 = .ok (.ireturn, 1) := by decide +kernel
theorem dX9_otherwise_0 : decode cX9_otherwise 0 = .ok (.iconst 0, 1) := by decide +kernel
theorem dX9_otherwise_1 : decode cX9_otherwise 1 = .ok (.istore_n 2, 1) := by decide +kernel
theorem dX9_otherwise_2 : decode cX9_otherwise 2 = .ok (.iload_n 2, 1) := by decide +kernel
theorem dX9_otherwise_3 : decode cX9_otherwise 3 = .ok (.bipush 16, 2) := by decide +kernel
theorem dX9_otherwise_5 : decode cX9_otherwise 5 = .ok (.if_icmp .ge 31, 3) := by decide +kernel
theorem dX9_otherwise_8 : decode cX9_otherwise 8 = .ok (.aload_n 0, 1) := by decide +kernel
theorem dX9_otherwise_9 : decode cX9_otherwise 9 = .ok (.getfield 37, 3) := by decide +kernel
theorem dX9_otherwise_12 : decode cX9_otherwise 12 = .ok (.bipush 40, 2) := by decide +kernel
theorem dX9_otherwise_14 : decode cX9_otherwise 14 = .ok (.iload_n 1, 1) := by decide +kernel
theorem dX9_otherwise_15 : decode cX9_otherwise 15 = .ok (.imul, 1) := by decide +kernel
theorem dX9_otherwise_16 : decode cX9_otherwise 16 = .ok (.iload_n 2, 1) := by decide +kernel
theorem dX9_otherwise_17 : decode cX9_otherwise 17 = .ok (.iadd, 1) := by decide +kernel
theorem dX9_otherwise_18 : decode cX9_otherwise 18 = .ok (.iaload, 1) := by decide +kernel
theorem dX9_otherwise_19 : decode cX9_otherwise 19 = .ok (.aload_n 0, 1) := by decide +kernel
theorem dX9_otherwise_20 : decode cX9_otherwise 20 = .ok (.iload_n 2, 1) := by decide +kernel
theorem dX9_otherwise_21 : decode cX9_otherwise 21 = .ok (.iconst 0, 1) := by decide +kernel
theorem dX9_otherwise_22 : decode cX9_otherwise 22 = .ok (.invokevirtual 166, 3) := by decide +kernel
theorem dX9_otherwise_25 : decode cX9_otherwise 25 = .ok (.if_icmp .eq 5, 3) := by decide +kernel
theorem dX9_otherwise_28 : decode cX9_otherwise 28 = .ok (.iload_n 2, 1) := by decide +kernel
theorem dX9_otherwise_29 : decode cX9_otherwise 29 = .ok (.ireturn, 1) := by decide +kernel
theorem dX9_otherwise_30 : decode cX9_otherwise 30 = .ok (.iinc 2 1, 3) := by decide +kernel
theorem dX9_otherwise_33 : decode cX9_otherwise 33 = .ok (.goto (-31), 3) := by decide +kernel
theorem dX9_otherwise_36 : decode cX9_otherwise 36 = .ok (.iconst (-1), 1) := by decide +kernel
theorem dX9_otherwise_37 : decode cX9_otherwise 37 = .ok (.ireturn, 1) := by decide +kernel
theorem dX9_check_0 : decode cX9_check 0 = .ok (.aload_n 0, 1) := by decide +kernel
theorem dX9_check_1 : decode cX9_check 1 = .ok (.iload_n 1, 1) := by decide +kernel
theorem dX9_check_2 : decode cX9_check 2 = .ok (.invokevirtual 280, 3) := by decide +kernel
theorem dX9_check_5 : decode cX9_check 5 = .ok (.istore_n 2, 1) := by decide +kernel
theorem dX9_check_6 : decode cX9_check 6 = .ok (.iload_n 2, 1) := by decide +kernel
theorem dX9_check_7 : decode cX9_check 7 = .ok (.ifCond .ne 11, 3) := by decide +kernel
theorem dX9_check_10 : decode cX9_check 10 = .ok (.aload_n 0, 1) := by decide +kernel
theorem dX9_check_11 : decode cX9_check 11 = .ok (.iload_n 1, 1) := by decide +kernel
theorem dX9_check_12 : decode cX9_check 12 = .ok (.invokevirtual 286, 3) := by decide +kernel
theorem dX9_check_15 : decode cX9_check 15 = .ok (.goto 4, 3) := by decide +kernel
theorem dX9_check_18 : decode cX9_check 18 = .ok (.iload_n 2, 1) := by decide +kernel
theorem dX9_check_19 : decode cX9_check 19 = .ok (.ireturn, 1) := by decide +kernel
theorem dX9_kinds_0 : decode cX9_kinds 0 = .ok (.aload_n 0, 1) := by decide +kernel
theorem dX9_kinds_1 : decode cX9_kinds 1 = .ok (.iload_n 1, 1) := by decide +kernel
theorem dX9_kinds_2 : decode cX9_kinds 2 = .ok (.invokevirtual 280, 3) := by decide +kernel
theorem dX9_kinds_5 : decode cX9_kinds 5 = .ok (.istore 4, 2) := by decide +kernel
theorem dX9_kinds_7 : decode cX9_kinds 7 = .ok (.iload 4, 2) := by decide +kernel
theorem dX9_kinds_9 : decode cX9_kinds 9 = .ok (.ifCond .eq 6, 3) := by decide +kernel
theorem dX9_kinds_12 : decode cX9_kinds 12 = .ok (.iload 4, 2) := by decide +kernel
theorem dX9_kinds_14 : decode cX9_kinds 14 = .ok (.ireturn, 1) := by decide +kernel
theorem dX9_kinds_15 : decode cX9_kinds 15 = .ok (.iload_n 2, 1) := by decide +kernel
theorem dX9_kinds_16 : decode cX9_kinds 16 = .ok (.invokestatic 160, 3) := by decide +kernel
theorem dX9_kinds_19 : decode cX9_kinds 19 = .ok (.ifCond .ne 6, 3) := by decide +kernel
theorem dX9_kinds_22 : decode cX9_kinds 22 = .ok (.bipush (-5), 2) := by decide +kernel
theorem dX9_kinds_24 : decode cX9_kinds 24 = .ok (.ireturn, 1) := by decide +kernel
theorem dX9_kinds_25 : decode cX9_kinds 25 = .ok (.iload_n 3, 1) := by decide +kernel
theorem dX9_kinds_26 : decode cX9_kinds 26 = .ok (.iconst 0, 1) := by decide +kernel
theorem dX9_kinds_27 : decode cX9_kinds 27 = .ok (.iconst 1, 1) := by decide +kernel
theorem dX9_kinds_28 : decode cX9_kinds 28 = .ok (.invokestatic 76, 3) := by decide +kernel
theorem dX9_kinds_31 : decode cX9_kinds 31 = .ok (.ifCond .ne 6, 3) := by decide +kernel
theorem dX9_kinds_34 : decode cX9_kinds 34 = .ok (.bipush (-7), 2) := by decide +kernel
theorem dX9_kinds_36 : decode cX9_kinds 36 = .ok (.ireturn, 1) := by decide +kernel
theorem dX9_kinds_37 : decode cX9_kinds 37 = .ok (.aload_n 0, 1) := by decide +kernel
theorem dX9_kinds_38 : decode cX9_kinds 38 = .ok (.getfield 7, 3) := by decide +kernel
theorem dX9_kinds_41 : decode cX9_kinds 41 = .ok (.iload_n 2, 1) := by decide +kernel
theorem dX9_kinds_42 : decode cX9_kinds 42 = .ok (.iaload, 1) := by decide +kernel
theorem dX9_kinds_43 : decode cX9_kinds 43 = .ok (.istore 5, 2) := by decide +kernel
theorem dX9_kinds_45 : decode cX9_kinds 45 = .ok (.aload_n 0, 1) := by decide +kernel
theorem dX9_kinds_46 : decode cX9_kinds 46 = .ok (.getfield 13, 3) := by decide +kernel
theorem dX9_kinds_49 : decode cX9_kinds 49 = .ok (.iload_n 2, 1) := by decide +kernel
theorem dX9_kinds_50 : decode cX9_kinds 50 = .ok (.iaload, 1) := by decide +kernel
theorem dX9_kinds_51 : decode cX9_kinds 51 = .ok (.istore 6, 2) := by decide +kernel
theorem dX9_kinds_53 : decode cX9_kinds 53 = .ok (.iconst 0, 1) := by decide +kernel
theorem dX9_kinds_54 : decode cX9_kinds 54 = .ok (.istore 7, 2) := by decide +kernel
theorem dX9_kinds_56 : decode cX9_kinds 56 = .ok (.iconst 0, 1) := by decide +kernel
theorem dX9_kinds_57 : decode cX9_kinds 57 = .ok (.istore 8, 2) := by decide +kernel
theorem dX9_kinds_59 : decode cX9_kinds 59 = .ok (.iload 8, 2) := by decide +kernel
theorem dX9_kinds_61 : decode cX9_kinds 61 = .ok (.iload_n 3, 1) := by decide +kernel
theorem dX9_kinds_62 : decode cX9_kinds 62 = .ok (.ifCond .ne 8, 3) := by decide +kernel
theorem dX9_kinds_65 : decode cX9_kinds 65 = .ok (.bipush 6, 2) := by decide +kernel
theorem dX9_kinds_67 : decode cX9_kinds 67 = .ok (.goto 5, 3) := by decide +kernel
theorem dX9_kinds_70 : decode cX9_kinds 70 = .ok (.bipush 10, 2) := by decide +kernel
theorem dX9_kinds_72 : decode cX9_kinds 72 = .ok (.if_icmp .ge 77, 3) := by decide +kernel
theorem dX9_kinds_75 : decode cX9_kinds 75 = .ok (.aload_n 0, 1) := by decide +kernel
theorem dX9_kinds_76 : decode cX9_kinds 76 = .ok (.getfield 7, 3) := by decide +kernel
theorem dX9_kinds_79 : decode cX9_kinds 79 = .ok (.iload_n 2, 1) := by decide +kernel
theorem dX9_kinds_80 : decode cX9_kinds 80 = .ok (.iload_n 3, 1) := by decide +kernel
theorem dX9_kinds_81 : decode cX9_kinds 81 = .ok (.ifCond .ne 8, 3) := by decide +kernel
theorem dX9_kinds_84 : decode cX9_kinds 84 = .ok (.iload 8, 2) := by decide +kernel
theorem dX9_kinds_86 : decode cX9_kinds 86 = .ok (.goto 5, 3) := by decide +kernel
theorem dX9_kinds_89 : decode cX9_kinds 89 = .ok (.iload 5, 2) := by decide +kernel
theorem dX9_kinds_91 : decode cX9_kinds 91 = .ok (.iastore, 1) := by decide +kernel
theorem dX9_kinds_92 : decode cX9_kinds 92 = .ok (.aload_n 0, 1) := by decide +kernel
theorem dX9_kinds_93 : decode cX9_kinds 93 = .ok (.getfield 13, 3) := by decide +kernel
theorem dX9_kinds_96 : decode cX9_kinds 96 = .ok (.iload_n 2, 1) := by decide +kernel
theorem dX9_kinds_97 : decode cX9_kinds 97 = .ok (.iload_n 3, 1) := by decide +kernel
theorem dX9_kinds_98 : decode cX9_kinds 98 = .ok (.iconst 1, 1) := by decide +kernel
theorem dX9_kinds_99 : decode cX9_kinds 99 = .ok (.if_icmp .ne 8, 3) := by decide +kernel
theorem dX9_kinds_102 : decode cX9_kinds 102 = .ok (.iload 8, 2) := by decide +kernel
theorem dX9_kinds_104 : decode cX9_kinds 104 = .ok (.goto 5, 3) := by decide +kernel
theorem dX9_kinds_107 : decode cX9_kinds 107 = .ok (.iload 6, 2) := by decide +kernel
theorem dX9_kinds_109 : decode cX9_kinds 109 = .ok (.iastore, 1) := by decide +kernel
theorem dX9_kinds_110 : decode cX9_kinds 110 = .ok (.iload 7, 2) := by decide +kernel
theorem dX9_kinds_112 : decode cX9_kinds 112 = .ok (.aload_n 0, 1) := by decide +kernel
theorem dX9_kinds_113 : decode cX9_kinds 113 = .ok (.getfield 37, 3) := by decide +kernel
theorem dX9_kinds_116 : decode cX9_kinds 116 = .ok (.bipush 40, 2) := by decide +kernel
theorem dX9_kinds_118 : decode cX9_kinds 118 = .ok (.iload_n 1, 1) := by decide +kernel
theorem dX9_kinds_119 : decode cX9_kinds 119 = .ok (.imul, 1) := by decide +kernel
theorem dX9_kinds_120 : decode cX9_kinds 120 = .ok (.iload_n 2, 1) := by decide +kernel
theorem dX9_kinds_121 : decode cX9_kinds 121 = .ok (.iadd, 1) := by decide +kernel
theorem dX9_kinds_122 : decode cX9_kinds 122 = .ok (.iaload, 1) := by decide +kernel
theorem dX9_kinds_123 : decode cX9_kinds 123 = .ok (.aload_n 0, 1) := by decide +kernel
theorem dX9_kinds_124 : decode cX9_kinds 124 = .ok (.iload_n 2, 1) := by decide +kernel
theorem dX9_kinds_125 : decode cX9_kinds 125 = .ok (.iconst 0, 1) := by decide +kernel
theorem dX9_kinds_126 : decode cX9_kinds 126 = .ok (.invokevirtual 166, 3) := by decide +kernel
theorem dX9_kinds_129 : decode cX9_kinds 129 = .ok (.if_icmp .ne 10, 3) := by decide +kernel
theorem dX9_kinds_132 : decode cX9_kinds 132 = .ok (.iconst 1, 1) := by decide +kernel
theorem dX9_kinds_133 : decode cX9_kinds 133 = .ok (.iload 8, 2) := by decide +kernel
theorem dX9_kinds_135 : decode cX9_kinds 135 = .ok (.ishl, 1) := by decide +kernel
theorem dX9_kinds_136 : decode cX9_kinds 136 = .ok (.goto 4, 3) := by decide +kernel
theorem dX9_kinds_139 : decode cX9_kinds 139 = .ok (.iconst 0, 1) := by decide +kernel
theorem dX9_kinds_140 : decode cX9_kinds 140 = .ok (.ior, 1) := by decide +kernel
theorem dX9_kinds_141 : decode cX9_kinds 141 = .ok (.istore 7, 2) := by decide +kernel
theorem dX9_kinds_143 : decode cX9_kinds 143 = .ok (.iinc 8 1, 3) := by decide +kernel
theorem dX9_kinds_146 : decode cX9_kinds 146 = .ok (.goto (-87), 3) := by decide +kernel
theorem dX9_kinds_149 : decode cX9_kinds 149 = .ok (.aload_n 0, 1) := by decide +kernel
theorem dX9_kinds_150 : decode cX9_kinds 150 = .ok (.getfield 7, 3) := by decide +kernel
theorem dX9_kinds_153 : decode cX9_kinds 153 = .ok (.iload_n 2, 1) := by decide +kernel
theorem dX9_kinds_154 : decode cX9_kinds 154 = .ok (.iload 5, 2) := by decide +kernel
theorem dX9_kinds_156 : decode cX9_kinds 156 = .ok (.iastore, 1) := by decide +kernel
theorem dX9_kinds_157 : decode cX9_kinds 157 = .ok (.aload_n 0, 1) := by decide +kernel
theorem dX9_kinds_158 : decode cX9_kinds 158 = .ok (.getfield 13, 3) := by decide +kernel
theorem dX9_kinds_161 : decode cX9_kinds 161 = .ok (.iload_n 2, 1) := by decide +kernel
theorem dX9_kinds_162 : decode cX9_kinds 162 = .ok (.iload 6, 2) := by decide +kernel
theorem dX9_kinds_164 : decode cX9_kinds 164 = .ok (.iastore, 1) := by decide +kernel
theorem dX9_kinds_165 : decode cX9_kinds 165 = .ok (.iload 7, 2) := by decide +kernel
theorem dX9_kinds_167 : decode cX9_kinds 167 = .ok (.ireturn, 1) := by decide +kernel
theorem dX9_laws_0 : decode cX9_laws 0 = .ok (.aload_n 0, 1) := by decide +kernel
theorem dX9_laws_1 : decode cX9_laws 1 = .ok (.iload_n 1, 1) := by decide +kernel
theorem dX9_laws_2 : decode cX9_laws 2 = .ok (.invokevirtual 280, 3) := by decide +kernel
theorem dX9_laws_5 : decode cX9_laws 5 = .ok (.istore_n 2, 1) := by decide +kernel
theorem dX9_laws_6 : decode cX9_laws 6 = .ok (.iload_n 2, 1) := by decide +kernel
theorem dX9_laws_7 : decode cX9_laws 7 = .ok (.ifCond .eq 5, 3) := by decide +kernel
theorem dX9_laws_10 : decode cX9_laws 10 = .ok (.iload_n 2, 1) := by decide +kernel
theorem dX9_laws_11 : decode cX9_laws 11 = .ok (.ireturn, 1) := by decide +kernel
theorem dX9_laws_12 : decode cX9_laws 12 = .ok (.aload_n 0, 1) := by decide +kernel
theorem dX9_laws_13 : decode cX9_laws 13 = .ok (.getfield 83, 3) := by decide +kernel
theorem dX9_laws_16 : decode cX9_laws 16 = .ok (.istore_n 3, 1) := by decide +kernel
theorem dX9_laws_17 : decode cX9_laws 17 = .ok (.iconst 0, 1) := by decide +kernel
theorem dX9_laws_18 : decode cX9_laws 18 = .ok (.istore 4, 2) := by decide +kernel
theorem dX9_laws_20 : decode cX9_laws 20 = .ok (.iconst 0, 1) := by decide +kernel
theorem dX9_laws_21 : decode cX9_laws 21 = .ok (.istore 5, 2) := by decide +kernel
theorem dX9_laws_23 : decode cX9_laws 23 = .ok (.iload 5, 2) := by decide +kernel
theorem dX9_laws_25 : decode cX9_laws 25 = .ok (.aload_n 0, 1) := by decide +kernel
theorem dX9_laws_26 : decode cX9_laws 26 = .ok (.getfield 80, 3) := by decide +kernel
theorem dX9_laws_29 : decode cX9_laws 29 = .ok (.if_icmp .ge 37, 3) := by decide +kernel
theorem dX9_laws_32 : decode cX9_laws 32 = .ok (.aload_n 0, 1) := by decide +kernel
theorem dX9_laws_33 : decode cX9_laws 33 = .ok (.iload 5, 2) := by decide +kernel
theorem dX9_laws_35 : decode cX9_laws 35 = .ok (.putfield 83, 3) := by decide +kernel
theorem dX9_laws_38 : decode cX9_laws 38 = .ok (.iload 4, 2) := by decide +kernel
theorem dX9_laws_40 : decode cX9_laws 40 = .ok (.aload_n 0, 1) := by decide +kernel
theorem dX9_laws_41 : decode cX9_laws 41 = .ok (.iload_n 1, 1) := by decide +kernel
theorem dX9_laws_42 : decode cX9_laws 42 = .ok (.invokevirtual 286, 3) := by decide +kernel
theorem dX9_laws_45 : decode cX9_laws 45 = .ok (.iconst (-1), 1) := by decide +kernel
theorem dX9_laws_46 : decode cX9_laws 46 = .ok (.if_icmp .ne 10, 3) := by decide +kernel
theorem dX9_laws_49 : decode cX9_laws 49 = .ok (.iconst 1, 1) := by decide +kernel
theorem dX9_laws_50 : decode cX9_laws 50 = .ok (.iload 5, 2) := by decide +kernel
theorem dX9_laws_52 : decode cX9_laws 52 = .ok (.ishl, 1) := by decide +kernel
theorem dX9_laws_53 : decode cX9_laws 53 = .ok (.goto 4, 3) := by decide +kernel
theorem dX9_laws_56 : decode cX9_laws 56 = .ok (.iconst 0, 1) := by decide +kernel
theorem dX9_laws_57 : decode cX9_laws 57 = .ok (.ior, 1) := by decide +kernel
theorem dX9_laws_58 : decode cX9_laws 58 = .ok (.istore 4, 2) := by decide +kernel
theorem dX9_laws_60 : decode cX9_laws 60 = .ok (.iinc 5 1, 3) := by decide +kernel
theorem dX9_laws_63 : decode cX9_laws 63 = .ok (.goto (-40), 3) := by decide +kernel
theorem dX9_laws_66 : decode cX9_laws 66 = .ok (.aload_n 0, 1) := by decide +kernel
theorem dX9_laws_67 : decode cX9_laws 67 = .ok (.iload_n 3, 1) := by decide +kernel
theorem dX9_laws_68 : decode cX9_laws 68 = .ok (.putfield 83, 3) := by decide +kernel
theorem dX9_laws_71 : decode cX9_laws 71 = .ok (.iload 4, 2) := by decide +kernel
theorem dX9_laws_73 : decode cX9_laws 73 = .ok (.ireturn, 1) := by decide +kernel
theorem dX9_amiss_0 : decode cX9_amiss 0 = .ok (.aload_n 0, 1) := by decide +kernel
theorem dX9_amiss_1 : decode cX9_amiss 1 = .ok (.iload_n 1, 1) := by decide +kernel
theorem dX9_amiss_2 : decode cX9_amiss 2 = .ok (.invokevirtual 280, 3) := by decide +kernel
theorem dX9_amiss_5 : decode cX9_amiss 5 = .ok (.ifCond .eq 7, 3) := by decide +kernel
theorem dX9_amiss_8 : decode cX9_amiss 8 = .ok (.ldc2_w 230, 3) := by decide +kernel
theorem dX9_amiss_11 : decode cX9_amiss 11 = .ok (.lreturn, 1) := by decide +kernel
theorem dX9_amiss_12 : decode cX9_amiss 12 = .ok (.lconst 0, 1) := by decide +kernel
theorem dX9_amiss_13 : decode cX9_amiss 13 = .ok (.lstore_n 2, 1) := by decide +kernel
theorem dX9_amiss_14 : decode cX9_amiss 14 = .ok (.iconst 0, 1) := by decide +kernel
theorem dX9_amiss_15 : decode cX9_amiss 15 = .ok (.istore 4, 2) := by decide +kernel
theorem dX9_amiss_17 : decode cX9_amiss 17 = .ok (.iload 4, 2) := by decide +kernel
theorem dX9_amiss_19 : decode cX9_amiss 19 = .ok (.bipush 16, 2) := by decide +kernel
theorem dX9_amiss_21 : decode cX9_amiss 21 = .ok (.if_icmp .ge 51, 3) := by decide +kernel
theorem dX9_amiss_24 : decode cX9_amiss 24 = .ok (.aload_n 0, 1) := by decide +kernel
theorem dX9_amiss_25 : decode cX9_amiss 25 = .ok (.getfield 37, 3) := by decide +kernel
theorem dX9_amiss_28 : decode cX9_amiss 28 = .ok (.bipush 40, 2) := by decide +kernel
theorem dX9_amiss_30 : decode cX9_amiss 30 = .ok (.iload_n 1, 1) := by decide +kernel
theorem dX9_amiss_31 : decode cX9_amiss 31 = .ok (.imul, 1) := by decide +kernel
theorem dX9_amiss_32 : decode cX9_amiss 32 = .ok (.iload 4, 2) := by decide +kernel
theorem dX9_amiss_34 : decode cX9_amiss 34 = .ok (.iadd, 1) := by decide +kernel
theorem dX9_amiss_35 : decode cX9_amiss 35 = .ok (.iaload, 1) := by decide +kernel
theorem dX9_amiss_36 : decode cX9_amiss 36 = .ok (.i2l, 1) := by decide +kernel
theorem dX9_amiss_37 : decode cX9_amiss 37 = .ok (.aload_n 0, 1) := by decide +kernel
theorem dX9_amiss_38 : decode cX9_amiss 38 = .ok (.iload 4, 2) := by decide +kernel
theorem dX9_amiss_40 : decode cX9_amiss 40 = .ok (.iconst 0, 1) := by decide +kernel
theorem dX9_amiss_41 : decode cX9_amiss 41 = .ok (.invokevirtual 166, 3) := by decide +kernel
theorem dX9_amiss_44 : decode cX9_amiss 44 = .ok (.i2l, 1) := by decide +kernel
theorem dX9_amiss_45 : decode cX9_amiss 45 = .ok (.lsub, 1) := by decide +kernel
theorem dX9_amiss_46 : decode cX9_amiss 46 = .ok (.lstore 5, 2) := by decide +kernel
theorem dX9_amiss_48 : decode cX9_amiss 48 = .ok (.lload_n 2, 1) := by decide +kernel
theorem dX9_amiss_49 : decode cX9_amiss 49 = .ok (.lload 5, 2) := by decide +kernel
theorem dX9_amiss_51 : decode cX9_amiss 51 = .ok (.lconst 0, 1) := by decide +kernel
theorem dX9_amiss_52 : decode cX9_amiss 52 = .ok (.lcmp, 1) := by decide +kernel
theorem dX9_amiss_53 : decode cX9_amiss 53 = .ok (.ifCond .ge 9, 3) := by decide +kernel
theorem dX9_amiss_56 : decode cX9_amiss 56 = .ok (.lload 5, 2) := by decide +kernel
theorem dX9_amiss_58 : decode cX9_amiss 58 = .ok (.lneg, 1) := by decide +kernel
theorem dX9_amiss_59 : decode cX9_amiss 59 = .ok (.goto 5, 3) := by decide +kernel
theorem dX9_amiss_62 : decode cX9_amiss 62 = .ok (.lload 5, 2) := by decide +kernel
theorem dX9_amiss_64 : decode cX9_amiss 64 = .ok (.ladd, 1) := by decide +kernel
theorem dX9_amiss_65 : decode cX9_amiss 65 = .ok (.lstore_n 2, 1) := by decide +kernel
theorem dX9_amiss_66 : decode cX9_amiss 66 = .ok (.iinc 4 1, 3) := by decide +kernel
theorem dX9_amiss_69 : decode cX9_amiss 69 = .ok (.goto (-52), 3) := by decide +kernel
theorem dX9_amiss_72 : decode cX9_amiss 72 = .ok (.lload_n 2, 1) := by decide +kernel
theorem dX9_amiss_73 : decode cX9_amiss 73 = .ok (.lreturn, 1) := by decide +kernel
theorem dX9_film_0 : decode cX9_film 0 = .ok (.iload_n 1, 1) := by decide +kernel
theorem dX9_film_1 : decode cX9_film 1 = .ok (.iconst 0, 1) := by decide +kernel
theorem dX9_film_2 : decode cX9_film 2 = .ok (.iconst 3, 1) := by decide +kernel
theorem dX9_film_3 : decode cX9_film 3 = .ok (.invokestatic 76, 3) := by decide +kernel
theorem dX9_film_6 : decode cX9_film 6 = .ok (.ifCond .ne 6, 3) := by decide +kernel
theorem dX9_film_9 : decode cX9_film 9 = .ok (.bipush (-2), 2) := by decide +kernel
theorem dX9_film_11 : decode cX9_film 11 = .ok (.ireturn, 1) := by decide +kernel
theorem dX9_film_12 : decode cX9_film 12 = .ok (.iload_n 2, 1) := by decide +kernel
theorem dX9_film_13 : decode cX9_film 13 = .ok (.iconst 0, 1) := by decide +kernel
theorem dX9_film_14 : decode cX9_film 14 = .ok (.bipush 16, 2) := by decide +kernel
theorem dX9_film_16 : decode cX9_film 16 = .ok (.invokestatic 76, 3) := by decide +kernel
theorem dX9_film_19 : decode cX9_film 19 = .ok (.ifCond .ne 6, 3) := by decide +kernel
theorem dX9_film_22 : decode cX9_film 22 = .ok (.bipush (-5), 2) := by decide +kernel
theorem dX9_film_24 : decode cX9_film 24 = .ok (.ireturn, 1) := by decide +kernel
theorem dX9_film_25 : decode cX9_film 25 = .ok (.iload_n 3, 1) := by decide +kernel
theorem dX9_film_26 : decode cX9_film 26 = .ok (.invokestatic 249, 3) := by decide +kernel
theorem dX9_film_29 : decode cX9_film 29 = .ok (.ifCond .ne 6, 3) := by decide +kernel
theorem dX9_film_32 : decode cX9_film 32 = .ok (.bipush (-7), 2) := by decide +kernel
theorem dX9_film_34 : decode cX9_film 34 = .ok (.ireturn, 1) := by decide +kernel
theorem dX9_film_35 : decode cX9_film 35 = .ok (.iload_n 2, 1) := by decide +kernel
theorem dX9_film_36 : decode cX9_film 36 = .ok (.bipush 16, 2) := by decide +kernel
theorem dX9_film_38 : decode cX9_film 38 = .ok (.if_icmp .ne 7, 3) := by decide +kernel
theorem dX9_film_41 : decode cX9_film 41 = .ok (.iconst 0, 1) := by decide +kernel
theorem dX9_film_42 : decode cX9_film 42 = .ok (.goto 15, 3) := by decide +kernel
theorem dX9_film_45 : decode cX9_film 45 = .ok (.aload_n 0, 1) := by decide +kernel
theorem dX9_film_46 : decode cX9_film 46 = .ok (.iload_n 2, 1) := by decide +kernel
theorem dX9_film_47 : decode cX9_film 47 = .ok (.iconst 0, 1) := by decide +kernel
theorem dX9_film_48 : decode cX9_film 48 = .ok (.bipush 15, 2) := by decide +kernel
theorem dX9_film_50 : decode cX9_film 50 = .ok (.invokestatic 157, 3) := by decide +kernel
theorem dX9_film_53 : decode cX9_film 53 = .ok (.iload_n 3, 1) := by decide +kernel
theorem dX9_film_54 : decode cX9_film 54 = .ok (.invokevirtual 252, 3) := by decide +kernel
theorem dX9_film_57 : decode cX9_film 57 = .ok (.istore 4, 2) := by decide +kernel
theorem dX9_film_59 : decode cX9_film 59 = .ok (.aload_n 0, 1) := by decide +kernel
theorem dX9_film_60 : decode cX9_film 60 = .ok (.getfield 31, 3) := by decide +kernel
theorem dX9_film_63 : decode cX9_film 63 = .ok (.iload_n 1, 1) := by decide +kernel
theorem dX9_film_64 : decode cX9_film 64 = .ok (.iconst 0, 1) := by decide +kernel
theorem dX9_film_65 : decode cX9_film 65 = .ok (.iastore, 1) := by decide +kernel
theorem dX9_film_66 : decode cX9_film 66 = .ok (.aload_n 0, 1) := by decide +kernel
theorem dX9_film_67 : decode cX9_film 67 = .ok (.getfield 34, 3) := by decide +kernel
theorem dX9_film_70 : decode cX9_film 70 = .ok (.iload_n 1, 1) := by decide +kernel
theorem dX9_film_71 : decode cX9_film 71 = .ok (.bipush 16, 2) := by decide +kernel
theorem dX9_film_73 : decode cX9_film 73 = .ok (.iastore, 1) := by decide +kernel
theorem dX9_film_74 : decode cX9_film 74 = .ok (.iconst 0, 1) := by decide +kernel
theorem dX9_film_75 : decode cX9_film 75 = .ok (.istore 5, 2) := by decide +kernel
theorem dX9_film_77 : decode cX9_film 77 = .ok (.iload 5, 2) := by decide +kernel
theorem dX9_film_79 : decode cX9_film 79 = .ok (.bipush 40, 2) := by decide +kernel
theorem dX9_film_81 : decode cX9_film 81 = .ok (.if_icmp .ge 65, 3) := by decide +kernel
theorem dX9_film_84 : decode cX9_film 84 = .ok (.iload 5, 2) := by decide +kernel
theorem dX9_film_86 : decode cX9_film 86 = .ok (.iconst 0, 1) := by decide +kernel
theorem dX9_film_87 : decode cX9_film 87 = .ok (.bipush 15, 2) := by decide +kernel
theorem dX9_film_89 : decode cX9_film 89 = .ok (.invokestatic 157, 3) := by decide +kernel
theorem dX9_film_92 : decode cX9_film 92 = .ok (.istore 6, 2) := by decide +kernel
theorem dX9_film_94 : decode cX9_film 94 = .ok (.aload_n 0, 1) := by decide +kernel
theorem dX9_film_95 : decode cX9_film 95 = .ok (.getfield 37, 3) := by decide +kernel
theorem dX9_film_98 : decode cX9_film 98 = .ok (.bipush 40, 2) := by decide +kernel
theorem dX9_film_100 : decode cX9_film 100 = .ok (.iload_n 1, 1) := by decide +kernel
theorem dX9_film_101 : decode cX9_film 101 = .ok (.imul, 1) := by decide +kernel
theorem dX9_film_102 : decode cX9_film 102 = .ok (.iload 5, 2) := by decide +kernel
theorem dX9_film_104 : decode cX9_film 104 = .ok (.iadd, 1) := by decide +kernel
theorem dX9_film_105 : decode cX9_film 105 = .ok (.iload 5, 2) := by decide +kernel
theorem dX9_film_107 : decode cX9_film 107 = .ok (.bipush 16, 2) := by decide +kernel
theorem dX9_film_109 : decode cX9_film 109 = .ok (.if_icmp .lt 7, 3) := by decide +kernel
theorem dX9_film_112 : decode cX9_film 112 = .ok (.iconst 0, 1) := by decide +kernel
theorem dX9_film_113 : decode cX9_film 113 = .ok (.goto 26, 3) := by decide +kernel
theorem dX9_film_116 : decode cX9_film 116 = .ok (.iload_n 2, 1) := by decide +kernel
theorem dX9_film_117 : decode cX9_film 117 = .ok (.bipush 16, 2) := by decide +kernel
theorem dX9_film_119 : decode cX9_film 119 = .ok (.if_icmp .ne 13, 3) := by decide +kernel
theorem dX9_film_122 : decode cX9_film 122 = .ok (.aload_n 0, 1) := by decide +kernel
theorem dX9_film_123 : decode cX9_film 123 = .ok (.iload 6, 2) := by decide +kernel
theorem dX9_film_125 : decode cX9_film 125 = .ok (.iconst 0, 1) := by decide +kernel
theorem dX9_film_126 : decode cX9_film 126 = .ok (.invokevirtual 166, 3) := by decide +kernel
theorem dX9_film_129 : decode cX9_film 129 = .ok (.goto 10, 3) := by decide +kernel
theorem dX9_film_132 : decode cX9_film 132 = .ok (.iload 4, 2) := by decide +kernel
theorem dX9_film_134 : decode cX9_film 134 = .ok (.iload 6, 2) := by decide +kernel
theorem dX9_film_136 : decode cX9_film 136 = .ok (.ishr, 1) := by decide +kernel
theorem dX9_film_137 : decode cX9_film 137 = .ok (.iconst 1, 1) := by decide +kernel
theorem dX9_film_138 : decode cX9_film 138 = .ok (.iand, 1) := by decide +kernel
theorem dX9_film_139 : decode cX9_film 139 = .ok (.iastore, 1) := by decide +kernel
theorem dX9_film_140 : decode cX9_film 140 = .ok (.iinc 5 1, 3) := by decide +kernel
theorem dX9_film_143 : decode cX9_film 143 = .ok (.goto (-66), 3) := by decide +kernel
theorem dX9_film_146 : decode cX9_film 146 = .ok (.bipush 16, 2) := by decide +kernel
theorem dX9_film_148 : decode cX9_film 148 = .ok (.ireturn, 1) := by decide +kernel
theorem dX9_image_0 : decode cX9_image 0 = .ok (.aload_n 0, 1) := by decide +kernel
theorem dX9_image_1 : decode cX9_image 1 = .ok (.iconst 1, 1) := by decide +kernel
theorem dX9_image_2 : decode cX9_image 2 = .ok (.putfield 289, 3) := by decide +kernel
theorem dX9_image_5 : decode cX9_image 5 = .ok (.aload_n 0, 1) := by decide +kernel
theorem dX9_image_6 : decode cX9_image 6 = .ok (.aload_n 0, 1) := by decide +kernel
theorem dX9_image_7 : decode cX9_image 7 = .ok (.getfield 83, 3) := by decide +kernel
theorem dX9_image_10 : decode cX9_image 10 = .ok (.putfield 293, 3) := by decide +kernel
theorem dX9_image_13 : decode cX9_image 13 = .ok (.iconst 0, 1) := by decide +kernel
theorem dX9_image_14 : decode cX9_image 14 = .ok (.istore_n 1, 1) := by decide +kernel
theorem dX9_image_15 : decode cX9_image 15 = .ok (.iload_n 1, 1) := by decide +kernel
theorem dX9_image_16 : decode cX9_image 16 = .ok (.bipush 16, 2) := by decide +kernel
theorem dX9_image_18 : decode cX9_image 18 = .ok (.if_icmp .ge 36, 3) := by decide +kernel
theorem dX9_image_21 : decode cX9_image 21 = .ok (.aload_n 0, 1) := by decide +kernel
theorem dX9_image_22 : decode cX9_image 22 = .ok (.getfield 28, 3) := by decide +kernel
theorem dX9_image_25 : decode cX9_image 25 = .ok (.iload_n 1, 1) := by decide +kernel
theorem dX9_image_26 : decode cX9_image 26 = .ok (.aload_n 0, 1) := by decide +kernel
theorem dX9_image_27 : decode cX9_image 27 = .ok (.getfield 7, 3) := by decide +kernel
theorem dX9_image_30 : decode cX9_image 30 = .ok (.iload_n 1, 1) := by decide +kernel
theorem dX9_image_31 : decode cX9_image 31 = .ok (.iaload, 1) := by decide +kernel
theorem dX9_image_32 : decode cX9_image 32 = .ok (.iastore, 1) := by decide +kernel
theorem dX9_image_33 : decode cX9_image 33 = .ok (.aload_n 0, 1) := by decide +kernel
theorem dX9_image_34 : decode cX9_image 34 = .ok (.getfield 28, 3) := by decide +kernel
theorem dX9_image_37 : decode cX9_image 37 = .ok (.bipush 16, 2) := by decide +kernel
theorem dX9_image_39 : decode cX9_image 39 = .ok (.iload_n 1, 1) := by decide +kernel
theorem dX9_image_40 : decode cX9_image 40 = .ok (.iadd, 1) := by decide +kernel
theorem dX9_image_41 : decode cX9_image 41 = .ok (.aload_n 0, 1) := by decide +kernel
theorem dX9_image_42 : decode cX9_image 42 = .ok (.getfield 13, 3) := by decide +kernel
theorem dX9_image_45 : decode cX9_image 45 = .ok (.iload_n 1, 1) := by decide +kernel
theorem dX9_image_46 : decode cX9_image 46 = .ok (.iaload, 1) := by decide +kernel
theorem dX9_image_47 : decode cX9_image 47 = .ok (.iastore, 1) := by decide +kernel
theorem dX9_image_48 : decode cX9_image 48 = .ok (.iinc 1 1, 3) := by decide +kernel
theorem dX9_image_51 : decode cX9_image 51 = .ok (.goto (-36), 3) := by decide +kernel
theorem dX9_image_54 : decode cX9_image 54 = .ok (.iconst 0, 1) := by decide +kernel
theorem dX9_image_55 : decode cX9_image 55 = .ok (.istore_n 1, 1) := by decide +kernel
theorem dX9_image_56 : decode cX9_image 56 = .ok (.iload_n 1, 1) := by decide +kernel
theorem dX9_image_57 : decode cX9_image 57 = .ok (.iconst 4, 1) := by decide +kernel
theorem dX9_image_58 : decode cX9_image 58 = .ok (.if_icmp .ge 24, 3) := by decide +kernel
theorem dX9_image_61 : decode cX9_image 61 = .ok (.aload_n 0, 1) := by decide +kernel
theorem dX9_image_62 : decode cX9_image 62 = .ok (.getfield 28, 3) := by decide +kernel
theorem dX9_image_65 : decode cX9_image 65 = .ok (.bipush 32, 2) := by decide +kernel
theorem dX9_image_67 : decode cX9_image 67 = .ok (.iload_n 1, 1) := by decide +kernel
theorem dX9_image_68 : decode cX9_image 68 = .ok (.iadd, 1) := by decide +kernel
theorem dX9_image_69 : decode cX9_image 69 = .ok (.aload_n 0, 1) := by decide +kernel
theorem dX9_image_70 : decode cX9_image 70 = .ok (.getfield 16, 3) := by decide +kernel
theorem dX9_image_73 : decode cX9_image 73 = .ok (.iload_n 1, 1) := by decide +kernel
theorem dX9_image_74 : decode cX9_image 74 = .ok (.iaload, 1) := by decide +kernel
theorem dX9_image_75 : decode cX9_image 75 = .ok (.iastore, 1) := by decide +kernel
theorem dX9_image_76 : decode cX9_image 76 = .ok (.iinc 1 1, 3) := by decide +kernel
theorem dX9_image_79 : decode cX9_image 79 = .ok (.goto (-23), 3) := by decide +kernel
theorem dX9_image_82 : decode cX9_image 82 = .ok (.aload_n 0, 1) := by decide +kernel
theorem dX9_image_83 : decode cX9_image 83 = .ok (.getfield 16, 3) := by decide +kernel
theorem dX9_image_86 : decode cX9_image 86 = .ok (.iconst 1, 1) := by decide +kernel
theorem dX9_image_87 : decode cX9_image 87 = .ok (.iaload, 1) := by decide +kernel
theorem dX9_image_88 : decode cX9_image 88 = .ok (.invokestatic 151, 3) := by decide +kernel
theorem dX9_image_91 : decode cX9_image 91 = .ok (.ireturn, 1) := by decide +kernel
theorem dX9_back_0 : decode cX9_back 0 = .ok (.aload_n 0, 1) := by decide +kernel
theorem dX9_back_1 : decode cX9_back 1 = .ok (.getfield 289, 3) := by decide +kernel
theorem dX9_back_4 : decode cX9_back 4 = .ok (.ifCond .ne 6, 3) := by decide +kernel
theorem dX9_back_7 : decode cX9_back 7 = .ok (.bipush (-3), 2) := by decide +kernel
theorem dX9_back_9 : decode cX9_back 9 = .ok (.ireturn, 1) := by decide +kernel
theorem dX9_back_10 : decode cX9_back 10 = .ok (.aload_n 0, 1) := by decide +kernel
theorem dX9_back_11 : decode cX9_back 11 = .ok (.aload_n 0, 1) := by decide +kernel
theorem dX9_back_12 : decode cX9_back 12 = .ok (.getfield 293, 3) := by decide +kernel
theorem dX9_back_15 : decode cX9_back 15 = .ok (.putfield 83, 3) := by decide +kernel
theorem dX9_back_18 : decode cX9_back 18 = .ok (.iconst 0, 1) := by decide +kernel
theorem dX9_back_19 : decode cX9_back 19 = .ok (.istore_n 1, 1) := by decide +kernel
theorem dX9_back_20 : decode cX9_back 20 = .ok (.iload_n 1, 1) := by decide +kernel
theorem dX9_back_21 : decode cX9_back 21 = .ok (.bipush 16, 2) := by decide +kernel
theorem dX9_back_23 : decode cX9_back 23 = .ok (.if_icmp .ge 36, 3) := by decide +kernel
theorem dX9_back_26 : decode cX9_back 26 = .ok (.aload_n 0, 1) := by decide +kernel
theorem dX9_back_27 : decode cX9_back 27 = .ok (.getfield 7, 3) := by decide +kernel
theorem dX9_back_30 : decode cX9_back 30 = .ok (.iload_n 1, 1) := by decide +kernel
theorem dX9_back_31 : decode cX9_back 31 = .ok (.aload_n 0, 1) := by decide +kernel
theorem dX9_back_32 : decode cX9_back 32 = .ok (.getfield 28, 3) := by decide +kernel
theorem dX9_back_35 : decode cX9_back 35 = .ok (.iload_n 1, 1) := by decide +kernel
theorem dX9_back_36 : decode cX9_back 36 = .ok (.iaload, 1) := by decide +kernel
theorem dX9_back_37 : decode cX9_back 37 = .ok (.iastore, 1) := by decide +kernel
theorem dX9_back_38 : decode cX9_back 38 = .ok (.aload_n 0, 1) := by decide +kernel
theorem dX9_back_39 : decode cX9_back 39 = .ok (.getfield 13, 3) := by decide +kernel
theorem dX9_back_42 : decode cX9_back 42 = .ok (.iload_n 1, 1) := by decide +kernel
theorem dX9_back_43 : decode cX9_back 43 = .ok (.aload_n 0, 1) := by decide +kernel
theorem dX9_back_44 : decode cX9_back 44 = .ok (.getfield 28, 3) := by decide +kernel
theorem dX9_back_47 : decode cX9_back 47 = .ok (.bipush 16, 2) := by decide +kernel
theorem dX9_back_49 : decode cX9_back 49 = .ok (.iload_n 1, 1) := by decide +kernel
theorem dX9_back_50 : decode cX9_back 50 = .ok (.iadd, 1) := by decide +kernel
theorem dX9_back_51 : decode cX9_back 51 = .ok (.iaload, 1) := by decide +kernel
theorem dX9_back_52 : decode cX9_back 52 = .ok (.iastore, 1) := by decide +kernel
theorem dX9_back_53 : decode cX9_back 53 = .ok (.iinc 1 1, 3) := by decide +kernel
theorem dX9_back_56 : decode cX9_back 56 = .ok (.goto (-36), 3) := by decide +kernel
theorem dX9_back_59 : decode cX9_back 59 = .ok (.iconst 0, 1) := by decide +kernel
theorem dX9_back_60 : decode cX9_back 60 = .ok (.istore_n 1, 1) := by decide +kernel
theorem dX9_back_61 : decode cX9_back 61 = .ok (.iload_n 1, 1) := by decide +kernel
theorem dX9_back_62 : decode cX9_back 62 = .ok (.iconst 4, 1) := by decide +kernel
theorem dX9_back_63 : decode cX9_back 63 = .ok (.if_icmp .ge 24, 3) := by decide +kernel
theorem dX9_back_66 : decode cX9_back 66 = .ok (.aload_n 0, 1) := by decide +kernel
theorem dX9_back_67 : decode cX9_back 67 = .ok (.getfield 16, 3) := by decide +kernel
theorem dX9_back_70 : decode cX9_back 70 = .ok (.iload_n 1, 1) := by decide +kernel
theorem dX9_back_71 : decode cX9_back 71 = .ok (.aload_n 0, 1) := by decide +kernel
theorem dX9_back_72 : decode cX9_back 72 = .ok (.getfield 28, 3) := by decide +kernel
theorem dX9_back_75 : decode cX9_back 75 = .ok (.bipush 32, 2) := by decide +kernel
theorem dX9_back_77 : decode cX9_back 77 = .ok (.iload_n 1, 1) := by decide +kernel
theorem dX9_back_78 : decode cX9_back 78 = .ok (.iadd, 1) := by decide +kernel
theorem dX9_back_79 : decode cX9_back 79 = .ok (.iaload, 1) := by decide +kernel
theorem dX9_back_80 : decode cX9_back 80 = .ok (.iastore, 1) := by decide +kernel
theorem dX9_back_81 : decode cX9_back 81 = .ok (.iinc 1 1, 3) := by decide +kernel
theorem dX9_back_84 : decode cX9_back 84 = .ok (.goto (-23), 3) := by decide +kernel
theorem dX9_back_87 : decode cX9_back 87 = .ok (.aload_n 0, 1) := by decide +kernel
theorem dX9_back_88 : decode cX9_back 88 = .ok (.getfield 16, 3) := by decide +kernel
theorem dX9_back_91 : decode cX9_back 91 = .ok (.iconst 1, 1) := by decide +kernel
theorem dX9_back_92 : decode cX9_back 92 = .ok (.iaload, 1) := by decide +kernel
theorem dX9_back_93 : decode cX9_back 93 = .ok (.invokestatic 151, 3) := by decide +kernel
theorem dX9_back_96 : decode cX9_back 96 = .ok (.ireturn, 1) := by decide +kernel
theorem dX9_sheet_0 : decode cX9_sheet 0 = .ok (.iload_n 1, 1) := by decide +kernel
theorem dX9_sheet_1 : decode cX9_sheet 1 = .ok (.iconst 0, 1) := by decide +kernel
theorem dX9_sheet_2 : decode cX9_sheet 2 = .ok (.iconst 3, 1) := by decide +kernel
theorem dX9_sheet_3 : decode cX9_sheet 3 = .ok (.invokestatic 76, 3) := by decide +kernel
theorem dX9_sheet_6 : decode cX9_sheet 6 = .ok (.ifCond .eq 23, 3) := by decide +kernel
theorem dX9_sheet_9 : decode cX9_sheet 9 = .ok (.iload_n 2, 1) := by decide +kernel
theorem dX9_sheet_10 : decode cX9_sheet 10 = .ok (.iconst (-1), 1) := by decide +kernel
theorem dX9_sheet_11 : decode cX9_sheet 11 = .ok (.iconst 2, 1) := by decide +kernel
theorem dX9_sheet_12 : decode cX9_sheet 12 = .ok (.invokestatic 76, 3) := by decide +kernel
theorem dX9_sheet_15 : decode cX9_sheet 15 = .ok (.ifCond .eq 14, 3) := by decide +kernel
theorem dX9_sheet_18 : decode cX9_sheet 18 = .ok (.iload_n 2, 1) := by decide +kernel
theorem dX9_sheet_19 : decode cX9_sheet 19 = .ok (.iconst (-1), 1) := by decide +kernel
theorem dX9_sheet_20 : decode cX9_sheet 20 = .ok (.if_icmp .eq 12, 3) := by decide +kernel
theorem dX9_sheet_23 : decode cX9_sheet 23 = .ok (.iload_n 3, 1) := by decide +kernel
theorem dX9_sheet_24 : decode cX9_sheet 24 = .ok (.bipush 40, 2) := by decide +kernel
theorem dX9_sheet_26 : decode cX9_sheet 26 = .ok (.if_icmp .le 6, 3) := by decide +kernel
theorem dX9_sheet_29 : decode cX9_sheet 29 = .ok (.bipush (-2), 2) := by decide +kernel
theorem dX9_sheet_31 : decode cX9_sheet 31 = .ok (.ireturn, 1) := by decide +kernel
theorem dX9_sheet_32 : decode cX9_sheet 32 = .ok (.iload_n 2, 1) := by decide +kernel
theorem dX9_sheet_33 : decode cX9_sheet 33 = .ok (.iconst (-1), 1) := by decide +kernel
theorem dX9_sheet_34 : decode cX9_sheet 34 = .ok (.if_icmp .eq 10, 3) := by decide +kernel
theorem dX9_sheet_37 : decode cX9_sheet 37 = .ok (.iload_n 3, 1) := by decide +kernel
theorem dX9_sheet_38 : decode cX9_sheet 38 = .ok (.ifCond .ge 6, 3) := by decide +kernel
theorem dX9_sheet_41 : decode cX9_sheet 41 = .ok (.bipush (-14), 2) := by decide +kernel
theorem dX9_sheet_43 : decode cX9_sheet 43 = .ok (.ireturn, 1) := by decide +kernel
theorem dX9_sheet_44 : decode cX9_sheet 44 = .ok (.aload_n 0, 1) := by decide +kernel
theorem dX9_sheet_45 : decode cX9_sheet 45 = .ok (.getfield 31, 3) := by decide +kernel
theorem dX9_sheet_48 : decode cX9_sheet 48 = .ok (.iload_n 1, 1) := by decide +kernel
theorem dX9_sheet_49 : decode cX9_sheet 49 = .ok (.iload_n 2, 1) := by decide +kernel
theorem dX9_sheet_50 : decode cX9_sheet 50 = .ok (.iastore, 1) := by decide +kernel
theorem dX9_sheet_51 : decode cX9_sheet 51 = .ok (.aload_n 0, 1) := by decide +kernel
theorem dX9_sheet_52 : decode cX9_sheet 52 = .ok (.getfield 34, 3) := by decide +kernel
theorem dX9_sheet_55 : decode cX9_sheet 55 = .ok (.iload_n 1, 1) := by decide +kernel
theorem dX9_sheet_56 : decode cX9_sheet 56 = .ok (.iload_n 2, 1) := by decide +kernel
theorem dX9_sheet_57 : decode cX9_sheet 57 = .ok (.iconst (-1), 1) := by decide +kernel
theorem dX9_sheet_58 : decode cX9_sheet 58 = .ok (.if_icmp .ne 7, 3) := by decide +kernel
theorem dX9_sheet_61 : decode cX9_sheet 61 = .ok (.iconst 0, 1) := by decide +kernel
theorem dX9_sheet_62 : decode cX9_sheet 62 = .ok (.goto 4, 3) := by decide +kernel
theorem dX9_sheet_65 : decode cX9_sheet 65 = .ok (.iload_n 3, 1) := by decide +kernel
theorem dX9_sheet_66 : decode cX9_sheet 66 = .ok (.iastore, 1) := by decide +kernel
theorem dX9_sheet_67 : decode cX9_sheet 67 = .ok (.iconst 0, 1) := by decide +kernel
theorem dX9_sheet_68 : decode cX9_sheet 68 = .ok (.istore 4, 2) := by decide +kernel
theorem dX9_sheet_70 : decode cX9_sheet 70 = .ok (.iload 4, 2) := by decide +kernel
theorem dX9_sheet_72 : decode cX9_sheet 72 = .ok (.bipush 40, 2) := by decide +kernel
theorem dX9_sheet_74 : decode cX9_sheet 74 = .ok (.if_icmp .ge 22, 3) := by decide +kernel
theorem dX9_sheet_77 : decode cX9_sheet 77 = .ok (.aload_n 0, 1) := by decide +kernel
theorem dX9_sheet_78 : decode cX9_sheet 78 = .ok (.getfield 37, 3) := by decide +kernel
theorem dX9_sheet_81 : decode cX9_sheet 81 = .ok (.bipush 40, 2) := by decide +kernel
theorem dX9_sheet_83 : decode cX9_sheet 83 = .ok (.iload_n 1, 1) := by decide +kernel
theorem dX9_sheet_84 : decode cX9_sheet 84 = .ok (.imul, 1) := by decide +kernel
theorem dX9_sheet_85 : decode cX9_sheet 85 = .ok (.iload 4, 2) := by decide +kernel
theorem dX9_sheet_87 : decode cX9_sheet 87 = .ok (.iadd, 1) := by decide +kernel
theorem dX9_sheet_88 : decode cX9_sheet 88 = .ok (.iconst 0, 1) := by decide +kernel
theorem dX9_sheet_89 : decode cX9_sheet 89 = .ok (.iastore, 1) := by decide +kernel
theorem dX9_sheet_90 : decode cX9_sheet 90 = .ok (.iinc 4 1, 3) := by decide +kernel
theorem dX9_sheet_93 : decode cX9_sheet 93 = .ok (.goto (-23), 3) := by decide +kernel
theorem dX9_sheet_96 : decode cX9_sheet 96 = .ok (.iconst 1, 1) := by decide +kernel
theorem dX9_sheet_97 : decode cX9_sheet 97 = .ok (.ireturn, 1) := by decide +kernel
theorem dX9_cell_0 : decode cX9_cell 0 = .ok (.iload_n 1, 1) := by decide +kernel
theorem dX9_cell_1 : decode cX9_cell 1 = .ok (.iconst 0, 1) := by decide +kernel
theorem dX9_cell_2 : decode cX9_cell 2 = .ok (.iconst 3, 1) := by decide +kernel
theorem dX9_cell_3 : decode cX9_cell 3 = .ok (.invokestatic 76, 3) := by decide +kernel
theorem dX9_cell_6 : decode cX9_cell 6 = .ok (.ifCond .ne 6, 3) := by decide +kernel
theorem dX9_cell_9 : decode cX9_cell 9 = .ok (.bipush (-2), 2) := by decide +kernel
theorem dX9_cell_11 : decode cX9_cell 11 = .ok (.ireturn, 1) := by decide +kernel
theorem dX9_cell_12 : decode cX9_cell 12 = .ok (.aload_n 0, 1) := by decide +kernel
theorem dX9_cell_13 : decode cX9_cell 13 = .ok (.getfield 31, 3) := by decide +kernel
theorem dX9_cell_16 : decode cX9_cell 16 = .ok (.iload_n 1, 1) := by decide +kernel
theorem dX9_cell_17 : decode cX9_cell 17 = .ok (.iaload, 1) := by decide +kernel
theorem dX9_cell_18 : decode cX9_cell 18 = .ok (.iconst (-1), 1) := by decide +kernel
theorem dX9_cell_19 : decode cX9_cell 19 = .ok (.if_icmp .ne 6, 3) := by decide +kernel
theorem dX9_cell_22 : decode cX9_cell 22 = .ok (.bipush (-11), 2) := by decide +kernel
theorem dX9_cell_24 : decode cX9_cell 24 = .ok (.ireturn, 1) := by decide +kernel
theorem dX9_cell_25 : decode cX9_cell 25 = .ok (.iload_n 2, 1) := by decide +kernel
theorem dX9_cell_26 : decode cX9_cell 26 = .ok (.iconst 0, 1) := by decide +kernel
theorem dX9_cell_27 : decode cX9_cell 27 = .ok (.aload_n 0, 1) := by decide +kernel
theorem dX9_cell_28 : decode cX9_cell 28 = .ok (.getfield 34, 3) := by decide +kernel
theorem dX9_cell_31 : decode cX9_cell 31 = .ok (.iload_n 1, 1) := by decide +kernel
theorem dX9_cell_32 : decode cX9_cell 32 = .ok (.iaload, 1) := by decide +kernel
theorem dX9_cell_33 : decode cX9_cell 33 = .ok (.iconst 1, 1) := by decide +kernel
theorem dX9_cell_34 : decode cX9_cell 34 = .ok (.isub, 1) := by decide +kernel
theorem dX9_cell_35 : decode cX9_cell 35 = .ok (.invokestatic 76, 3) := by decide +kernel
theorem dX9_cell_38 : decode cX9_cell 38 = .ok (.ifCond .ne 6, 3) := by decide +kernel
theorem dX9_cell_41 : decode cX9_cell 41 = .ok (.bipush (-12), 2) := by decide +kernel
theorem dX9_cell_43 : decode cX9_cell 43 = .ok (.ireturn, 1) := by decide +kernel
theorem dX9_cell_44 : decode cX9_cell 44 = .ok (.aload_n 0, 1) := by decide +kernel
theorem dX9_cell_45 : decode cX9_cell 45 = .ok (.getfield 37, 3) := by decide +kernel
theorem dX9_cell_48 : decode cX9_cell 48 = .ok (.bipush 40, 2) := by decide +kernel
theorem dX9_cell_50 : decode cX9_cell 50 = .ok (.iload_n 1, 1) := by decide +kernel
theorem dX9_cell_51 : decode cX9_cell 51 = .ok (.imul, 1) := by decide +kernel
theorem dX9_cell_52 : decode cX9_cell 52 = .ok (.iload_n 2, 1) := by decide +kernel
theorem dX9_cell_53 : decode cX9_cell 53 = .ok (.iadd, 1) := by decide +kernel
theorem dX9_cell_54 : decode cX9_cell 54 = .ok (.aload_n 0, 1) := by decide +kernel
theorem dX9_cell_55 : decode cX9_cell 55 = .ok (.getfield 31, 3) := by decide +kernel
theorem dX9_cell_58 : decode cX9_cell 58 = .ok (.iload_n 1, 1) := by decide +kernel
theorem dX9_cell_59 : decode cX9_cell 59 = .ok (.iaload, 1) := by decide +kernel
theorem dX9_cell_60 : decode cX9_cell 60 = .ok (.ifCond .ne 8, 3) := by decide +kernel
theorem dX9_cell_63 : decode cX9_cell 63 = .ok (.iload_n 3, 1) := by decide +kernel
theorem dX9_cell_64 : decode cX9_cell 64 = .ok (.i2b, 1) := by decide +kernel
theorem dX9_cell_65 : decode cX9_cell 65 = .ok (.goto 19, 3) := by decide +kernel
theorem dX9_cell_68 : decode cX9_cell 68 = .ok (.aload_n 0, 1) := by decide +kernel
theorem dX9_cell_69 : decode cX9_cell 69 = .ok (.getfield 31, 3) := by decide +kernel
theorem dX9_cell_72 : decode cX9_cell 72 = .ok (.iload_n 1, 1) := by decide +kernel
theorem dX9_cell_73 : decode cX9_cell 73 = .ok (.iaload, 1) := by decide +kernel
theorem dX9_cell_74 : decode cX9_cell 74 = .ok (.iconst 1, 1) := by decide +kernel
theorem dX9_cell_75 : decode cX9_cell 75 = .ok (.if_icmp .ne 8, 3) := by decide +kernel
theorem dX9_cell_78 : decode cX9_cell 78 = .ok (.iload_n 3, 1) := by decide +kernel
theorem dX9_cell_79 : decode cX9_cell 79 = .ok (.i2s, 1) := by decide +kernel
theorem dX9_cell_80 : decode cX9_cell 80 = .ok (.goto 4, 3) := by decide +kernel
theorem dX9_cell_83 : decode cX9_cell 83 = .ok (.iload_n 3, 1) := by decide +kernel
theorem dX9_cell_84 : decode cX9_cell 84 = .ok (.iastore, 1) := by decide +kernel
theorem dX9_cell_85 : decode cX9_cell 85 = .ok (.iconst 1, 1) := by decide +kernel
theorem dX9_cell_86 : decode cX9_cell 86 = .ok (.ireturn, 1) := by decide +kernel
theorem dX9_copy_0 : decode cX9_copy 0 = .ok (.iload_n 1, 1) := by decide +kernel
theorem dX9_copy_1 : decode cX9_copy 1 = .ok (.iconst 0, 1) := by decide +kernel
theorem dX9_copy_2 : decode cX9_copy 2 = .ok (.iconst 3, 1) := by decide +kernel
theorem dX9_copy_3 : decode cX9_copy 3 = .ok (.invokestatic 76, 3) := by decide +kernel
theorem dX9_copy_6 : decode cX9_copy 6 = .ok (.ifCond .eq 12, 3) := by decide +kernel
theorem dX9_copy_9 : decode cX9_copy 9 = .ok (.iload_n 3, 1) := by decide +kernel
theorem dX9_copy_10 : decode cX9_copy 10 = .ok (.iconst 0, 1) := by decide +kernel
theorem dX9_copy_11 : decode cX9_copy 11 = .ok (.iconst 3, 1) := by decide +kernel
theorem dX9_copy_12 : decode cX9_copy 12 = .ok (.invokestatic 76, 3) := by decide +kernel
theorem dX9_copy_15 : decode cX9_copy 15 = .ok (.ifCond .ne 6, 3) := by decide +kernel
theorem dX9_copy_18 : decode cX9_copy 18 = .ok (.bipush (-2), 2) := by decide +kernel
theorem dX9_copy_20 : decode cX9_copy 20 = .ok (.ireturn, 1) := by decide +kernel
theorem dX9_copy_21 : decode cX9_copy 21 = .ok (.aload_n 0, 1) := by decide +kernel
theorem dX9_copy_22 : decode cX9_copy 22 = .ok (.getfield 31, 3) := by decide +kernel
theorem dX9_copy_25 : decode cX9_copy 25 = .ok (.iload_n 1, 1) := by decide +kernel
theorem dX9_copy_26 : decode cX9_copy 26 = .ok (.iaload, 1) := by decide +kernel
theorem dX9_copy_27 : decode cX9_copy 27 = .ok (.iconst (-1), 1) := by decide +kernel
theorem dX9_copy_28 : decode cX9_copy 28 = .ok (.if_icmp .eq 13, 3) := by decide +kernel
theorem dX9_copy_31 : decode cX9_copy 31 = .ok (.aload_n 0, 1) := by decide +kernel
theorem dX9_copy_32 : decode cX9_copy 32 = .ok (.getfield 31, 3) := by decide +kernel
theorem dX9_copy_35 : decode cX9_copy 35 = .ok (.iload_n 3, 1) := by decide +kernel
theorem dX9_copy_36 : decode cX9_copy 36 = .ok (.iaload, 1) := by decide +kernel
theorem dX9_copy_37 : decode cX9_copy 37 = .ok (.iconst (-1), 1) := by decide +kernel
theorem dX9_copy_38 : decode cX9_copy 38 = .ok (.if_icmp .ne 6, 3) := by decide +kernel
theorem dX9_copy_41 : decode cX9_copy 41 = .ok (.bipush (-11), 2) := by decide +kernel
theorem dX9_copy_43 : decode cX9_copy 43 = .ok (.ireturn, 1) := by decide +kernel
theorem dX9_copy_44 : decode cX9_copy 44 = .ok (.aload_n 0, 1) := by decide +kernel
theorem dX9_copy_45 : decode cX9_copy 45 = .ok (.getfield 31, 3) := by decide +kernel
theorem dX9_copy_48 : decode cX9_copy 48 = .ok (.iload_n 1, 1) := by decide +kernel
theorem dX9_copy_49 : decode cX9_copy 49 = .ok (.iaload, 1) := by decide +kernel
theorem dX9_copy_50 : decode cX9_copy 50 = .ok (.aload_n 0, 1) := by decide +kernel
theorem dX9_copy_51 : decode cX9_copy 51 = .ok (.getfield 31, 3) := by decide +kernel
theorem dX9_copy_54 : decode cX9_copy 54 = .ok (.iload_n 3, 1) := by decide +kernel
theorem dX9_copy_55 : decode cX9_copy 55 = .ok (.iaload, 1) := by decide +kernel
theorem dX9_copy_56 : decode cX9_copy 56 = .ok (.if_icmp .eq 6, 3) := by decide +kernel
theorem dX9_copy_59 : decode cX9_copy 59 = .ok (.bipush (-13), 2) := by decide +kernel
theorem dX9_copy_61 : decode cX9_copy 61 = .ok (.ireturn, 1) := by decide +kernel
theorem dX9_copy_62 : decode cX9_copy 62 = .ok (.iload 5, 2) := by decide +kernel
theorem dX9_copy_64 : decode cX9_copy 64 = .ok (.ifCond .lt 60, 3) := by decide +kernel
theorem dX9_copy_67 : decode cX9_copy 67 = .ok (.iload_n 2, 1) := by decide +kernel
theorem dX9_copy_68 : decode cX9_copy 68 = .ok (.ifCond .lt 56, 3) := by decide +kernel
theorem dX9_copy_71 : decode cX9_copy 71 = .ok (.iload 4, 2) := by decide +kernel
theorem dX9_copy_73 : decode cX9_copy 73 = .ok (.ifCond .lt 51, 3) := by decide +kernel
theorem dX9_copy_76 : decode cX9_copy 76 = .ok (.iload_n 2, 1) := by decide +kernel
theorem dX9_copy_77 : decode cX9_copy 77 = .ok (.aload_n 0, 1) := by decide +kernel
theorem dX9_copy_78 : decode cX9_copy 78 = .ok (.getfield 34, 3) := by decide +kernel
theorem dX9_copy_81 : decode cX9_copy 81 = .ok (.iload_n 1, 1) := by decide +kernel
theorem dX9_copy_82 : decode cX9_copy 82 = .ok (.iaload, 1) := by decide +kernel
theorem dX9_copy_83 : decode cX9_copy 83 = .ok (.if_icmp .gt 41, 3) := by decide +kernel
theorem dX9_copy_86 : decode cX9_copy 86 = .ok (.iload 4, 2) := by decide +kernel
theorem dX9_copy_88 : decode cX9_copy 88 = .ok (.aload_n 0, 1) := by decide +kernel
theorem dX9_copy_89 : decode cX9_copy 89 = .ok (.getfield 34, 3) := by decide +kernel
theorem dX9_copy_92 : decode cX9_copy 92 = .ok (.iload_n 3, 1) := by decide +kernel
theorem dX9_copy_93 : decode cX9_copy 93 = .ok (.iaload, 1) := by decide +kernel
theorem dX9_copy_94 : decode cX9_copy 94 = .ok (.if_icmp .gt 30, 3) := by decide +kernel
theorem dX9_copy_97 : decode cX9_copy 97 = .ok (.iload 5, 2) := by decide +kernel
theorem dX9_copy_99 : decode cX9_copy 99 = .ok (.aload_n 0, 1) := by decide +kernel
theorem dX9_copy_100 : decode cX9_copy 100 = .ok (.getfield 34, 3) := by decide +kernel
theorem dX9_copy_103 : decode cX9_copy 103 = .ok (.iload_n 1, 1) := by decide +kernel
theorem dX9_copy_104 : decode cX9_copy 104 = .ok (.iaload, 1) := by decide +kernel
theorem dX9_copy_105 : decode cX9_copy 105 = .ok (.iload_n 2, 1) := by decide +kernel
theorem dX9_copy_106 : decode cX9_copy 106 = .ok (.isub, 1) := by decide +kernel
theorem dX9_copy_107 : decode cX9_copy 107 = .ok (.if_icmp .gt 17, 3) := by decide +kernel
theorem dX9_copy_110 : decode cX9_copy 110 = .ok (.iload 5, 2) := by decide +kernel
theorem dX9_copy_112 : decode cX9_copy 112 = .ok (.aload_n 0, 1) := by decide +kernel
theorem dX9_copy_113 : decode cX9_copy 113 = .ok (.getfield 34, 3) := by decide +kernel
theorem dX9_copy_116 : decode cX9_copy 116 = .ok (.iload_n 3, 1) := by decide +kernel
theorem dX9_copy_117 : decode cX9_copy 117 = .ok (.iaload, 1) := by decide +kernel
theorem dX9_copy_118 : decode cX9_copy 118 = .ok (.iload 4, 2) := by decide +kernel
theorem dX9_copy_120 : decode cX9_copy 120 = .ok (.isub, 1) := by decide +kernel
theorem dX9_copy_121 : decode cX9_copy 121 = .ok (.if_icmp .le 6, 3) := by decide +kernel
theorem dX9_copy_124 : decode cX9_copy 124 = .ok (.bipush (-12), 2) := by decide +kernel
theorem dX9_copy_126 : decode cX9_copy 126 = .ok (.ireturn, 1) := by decide +kernel
theorem dX9_copy_127 : decode cX9_copy 127 = .ok (.bipush 40, 2) := by decide +kernel
theorem dX9_copy_129 : decode cX9_copy 129 = .ok (.iload_n 1, 1) := by decide +kernel
theorem dX9_copy_130 : decode cX9_copy 130 = .ok (.imul, 1) := by decide +kernel
theorem dX9_copy_131 : decode cX9_copy 131 = .ok (.iload_n 2, 1) := by decide +kernel
theorem dX9_copy_132 : decode cX9_copy 132 = .ok (.iadd, 1) := by decide +kernel
theorem dX9_copy_133 : decode cX9_copy 133 = .ok (.istore 6, 2) := by decide +kernel
theorem dX9_copy_135 : decode cX9_copy 135 = .ok (.bipush 40, 2) := by decide +kernel
theorem dX9_copy_137 : decode cX9_copy 137 = .ok (.iload_n 3, 1) := by decide +kernel
theorem dX9_copy_138 : decode cX9_copy 138 = .ok (.imul, 1) := by decide +kernel
theorem dX9_copy_139 : decode cX9_copy 139 = .ok (.iload 4, 2) := by decide +kernel
theorem dX9_copy_141 : decode cX9_copy 141 = .ok (.iadd, 1) := by decide +kernel
theorem dX9_copy_142 : decode cX9_copy 142 = .ok (.istore 7, 2) := by decide +kernel
theorem dX9_copy_144 : decode cX9_copy 144 = .ok (.iconst 0, 1) := by decide +kernel
theorem dX9_copy_145 : decode cX9_copy 145 = .ok (.istore 8, 2) := by decide +kernel
theorem dX9_copy_147 : decode cX9_copy 147 = .ok (.iload 8, 2) := by decide +kernel
theorem dX9_copy_149 : decode cX9_copy 149 = .ok (.iload 5, 2) := by decide +kernel
theorem dX9_copy_151 : decode cX9_copy 151 = .ok (.if_icmp .ge 50, 3) := by decide +kernel
theorem dX9_copy_154 : decode cX9_copy 154 = .ok (.iload 6, 2) := by decide +kernel
theorem dX9_copy_156 : decode cX9_copy 156 = .ok (.iload 7, 2) := by decide +kernel
theorem dX9_copy_158 : decode cX9_copy 158 = .ok (.if_icmp .ge 13, 3) := by decide +kernel
theorem dX9_copy_161 : decode cX9_copy 161 = .ok (.iload 5, 2) := by decide +kernel
theorem dX9_copy_163 : decode cX9_copy 163 = .ok (.iconst 1, 1) := by decide +kernel
theorem dX9_copy_164 : decode cX9_copy 164 = .ok (.isub, 1) := by decide +kernel
theorem dX9_copy_165 : decode cX9_copy 165 = .ok (.iload 8, 2) := by decide +kernel
theorem dX9_copy_167 : decode cX9_copy 167 = .ok (.isub, 1) := by decide +kernel
theorem dX9_copy_168 : decode cX9_copy 168 = .ok (.goto 5, 3) := by decide +kernel
theorem dX9_copy_171 : decode cX9_copy 171 = .ok (.iload 8, 2) := by decide +kernel
theorem dX9_copy_173 : decode cX9_copy 173 = .ok (.istore 9, 2) := by decide +kernel
theorem dX9_copy_175 : decode cX9_copy 175 = .ok (.aload_n 0, 1) := by decide +kernel
theorem dX9_copy_176 : decode cX9_copy 176 = .ok (.getfield 37, 3) := by decide +kernel
theorem dX9_copy_179 : decode cX9_copy 179 = .ok (.iload 7, 2) := by decide +kernel
theorem dX9_copy_181 : decode cX9_copy 181 = .ok (.iload 9, 2) := by decide +kernel
theorem dX9_copy_183 : decode cX9_copy 183 = .ok (.iadd, 1) := by decide +kernel
theorem dX9_copy_184 : decode cX9_copy 184 = .ok (.aload_n 0, 1) := by decide +kernel
theorem dX9_copy_185 : decode cX9_copy 185 = .ok (.getfield 37, 3) := by decide +kernel
theorem dX9_copy_188 : decode cX9_copy 188 = .ok (.iload 6, 2) := by decide +kernel
theorem dX9_copy_190 : decode cX9_copy 190 = .ok (.iload 9, 2) := by decide +kernel
theorem dX9_copy_192 : decode cX9_copy 192 = .ok (.iadd, 1) := by decide +kernel
theorem dX9_copy_193 : decode cX9_copy 193 = .ok (.iaload, 1) := by decide +kernel
theorem dX9_copy_194 : decode cX9_copy 194 = .ok (.iastore, 1) := by decide +kernel
theorem dX9_copy_195 : decode cX9_copy 195 = .ok (.iinc 8 1, 3) := by decide +kernel
theorem dX9_copy_198 : decode cX9_copy 198 = .ok (.goto (-51), 3) := by decide +kernel
theorem dX9_copy_201 : decode cX9_copy 201 = .ok (.iload 5, 2) := by decide +kernel
theorem dX9_copy_203 : decode cX9_copy 203 = .ok (.ireturn, 1) := by decide +kernel
theorem dX9_layBy_0 : decode cX9_layBy 0 = .ok (.iload_n 1, 1) := by decide +kernel
theorem dX9_layBy_1 : decode cX9_layBy 1 = .ok (.iconst 0, 1) := by decide +kernel
theorem dX9_layBy_2 : decode cX9_layBy 2 = .ok (.iconst 3, 1) := by decide +kernel
theorem dX9_layBy_3 : decode cX9_layBy 3 = .ok (.invokestatic 76, 3) := by decide +kernel
theorem dX9_layBy_6 : decode cX9_layBy 6 = .ok (.ifCond .eq 23, 3) := by decide +kernel
theorem dX9_layBy_9 : decode cX9_layBy 9 = .ok (.iload_n 2, 1) := by decide +kernel
theorem dX9_layBy_10 : decode cX9_layBy 10 = .ok (.iconst 0, 1) := by decide +kernel
theorem dX9_layBy_11 : decode cX9_layBy 11 = .ok (.iconst 2, 1) := by decide +kernel
theorem dX9_layBy_12 : decode cX9_layBy 12 = .ok (.invokestatic 76, 3) := by decide +kernel
theorem dX9_layBy_15 : decode cX9_layBy 15 = .ok (.ifCond .eq 14, 3) := by decide +kernel
theorem dX9_layBy_18 : decode cX9_layBy 18 = .ok (.iload 4, 2) := by decide +kernel
theorem dX9_layBy_20 : decode cX9_layBy 20 = .ok (.iconst 0, 1) := by decide +kernel
theorem dX9_layBy_21 : decode cX9_layBy 21 = .ok (.bipush 13, 2) := by decide +kernel
theorem dX9_layBy_23 : decode cX9_layBy 23 = .ok (.invokestatic 76, 3) := by decide +kernel
theorem dX9_layBy_26 : decode cX9_layBy 26 = .ok (.ifCond .ne 6, 3) := by decide +kernel
theorem dX9_layBy_29 : decode cX9_layBy 29 = .ok (.bipush (-2), 2) := by decide +kernel
theorem dX9_layBy_31 : decode cX9_layBy 31 = .ok (.ireturn, 1) := by decide +kernel
theorem dX9_layBy_32 : decode cX9_layBy 32 = .ok (.aload_n 0, 1) := by decide +kernel
theorem dX9_layBy_33 : decode cX9_layBy 33 = .ok (.getfield 31, 3) := by decide +kernel
theorem dX9_layBy_36 : decode cX9_layBy 36 = .ok (.iload_n 1, 1) := by decide +kernel
theorem dX9_layBy_37 : decode cX9_layBy 37 = .ok (.iaload, 1) := by decide +kernel
theorem dX9_layBy_38 : decode cX9_layBy 38 = .ok (.iconst (-1), 1) := by decide +kernel
theorem dX9_layBy_39 : decode cX9_layBy 39 = .ok (.if_icmp .ne 6, 3) := by decide +kernel
theorem dX9_layBy_42 : decode cX9_layBy 42 = .ok (.bipush (-11), 2) := by decide +kernel
theorem dX9_layBy_44 : decode cX9_layBy 44 = .ok (.ireturn, 1) := by decide +kernel
theorem dX9_layBy_45 : decode cX9_layBy 45 = .ok (.aload_n 0, 1) := by decide +kernel
theorem dX9_layBy_46 : decode cX9_layBy 46 = .ok (.getfield 31, 3) := by decide +kernel
theorem dX9_layBy_49 : decode cX9_layBy 49 = .ok (.iload_n 1, 1) := by decide +kernel
theorem dX9_layBy_50 : decode cX9_layBy 50 = .ok (.iaload, 1) := by decide +kernel
theorem dX9_layBy_51 : decode cX9_layBy 51 = .ok (.iload_n 2, 1) := by decide +kernel
theorem dX9_layBy_52 : decode cX9_layBy 52 = .ok (.if_icmp .eq 6, 3) := by decide +kernel
theorem dX9_layBy_55 : decode cX9_layBy 55 = .ok (.bipush (-13), 2) := by decide +kernel
theorem dX9_layBy_57 : decode cX9_layBy 57 = .ok (.ireturn, 1) := by decide +kernel
theorem dX9_layBy_58 : decode cX9_layBy 58 = .ok (.iconst 0, 1) := by decide +kernel
theorem dX9_layBy_59 : decode cX9_layBy 59 = .ok (.istore 5, 2) := by decide +kernel
theorem dX9_layBy_61 : decode cX9_layBy 61 = .ok (.iconst 0, 1) := by decide +kernel
theorem dX9_layBy_62 : decode cX9_layBy 62 = .ok (.istore 6, 2) := by decide +kernel
theorem dX9_layBy_64 : decode cX9_layBy 64 = .ok (.iload 6, 2) := by decide +kernel
theorem dX9_layBy_66 : decode cX9_layBy 66 = .ok (.iload 4, 2) := by decide +kernel
theorem dX9_layBy_68 : decode cX9_layBy 68 = .ok (.if_icmp .ge 94, 3) := by decide +kernel
theorem dX9_layBy_71 : decode cX9_layBy 71 = .ok (.iload_n 3, 1) := by decide +kernel
theorem dX9_layBy_72 : decode cX9_layBy 72 = .ok (.iconst 3, 1) := by decide +kernel
theorem dX9_layBy_73 : decode cX9_layBy 73 = .ok (.iload 6, 2) := by decide +kernel
theorem dX9_layBy_75 : decode cX9_layBy 75 = .ok (.imul, 1) := by decide +kernel
theorem dX9_layBy_76 : decode cX9_layBy 76 = .ok (.iadd, 1) := by decide +kernel
theorem dX9_layBy_77 : decode cX9_layBy 77 = .ok (.istore 7, 2) := by decide +kernel
theorem dX9_layBy_79 : decode cX9_layBy 79 = .ok (.iload_n 3, 1) := by decide +kernel
theorem dX9_layBy_80 : decode cX9_layBy 80 = .ok (.ifCond .lt 22, 3) := by decide +kernel
theorem dX9_layBy_83 : decode cX9_layBy 83 = .ok (.iload 7, 2) := by decide +kernel
theorem dX9_layBy_85 : decode cX9_layBy 85 = .ok (.iload_n 3, 1) := by decide +kernel
theorem dX9_layBy_86 : decode cX9_layBy 86 = .ok (.if_icmp .lt 16, 3) := by decide +kernel
theorem dX9_layBy_89 : decode cX9_layBy 89 = .ok (.iload 7, 2) := by decide +kernel
theorem dX9_layBy_91 : decode cX9_layBy 91 = .ok (.aload_n 0, 1) := by decide +kernel
theorem dX9_layBy_92 : decode cX9_layBy 92 = .ok (.getfield 34, 3) := by decide +kernel
theorem dX9_layBy_95 : decode cX9_layBy 95 = .ok (.iload_n 1, 1) := by decide +kernel
theorem dX9_layBy_96 : decode cX9_layBy 96 = .ok (.iaload, 1) := by decide +kernel
theorem dX9_layBy_97 : decode cX9_layBy 97 = .ok (.iconst 3, 1) := by decide +kernel
theorem dX9_layBy_98 : decode cX9_layBy 98 = .ok (.isub, 1) := by decide +kernel
theorem dX9_layBy_99 : decode cX9_layBy 99 = .ok (.if_icmp .le 6, 3) := by decide +kernel
theorem dX9_layBy_102 : decode cX9_layBy 102 = .ok (.bipush (-12), 2) := by decide +kernel
theorem dX9_layBy_104 : decode cX9_layBy 104 = .ok (.ireturn, 1) := by decide +kernel
theorem dX9_layBy_105 : decode cX9_layBy 105 = .ok (.bipush 40, 2) := by decide +kernel
theorem dX9_layBy_107 : decode cX9_layBy 107 = .ok (.iload_n 1, 1) := by decide +kernel
theorem dX9_layBy_108 : decode cX9_layBy 108 = .ok (.imul, 1) := by decide +kernel
theorem dX9_layBy_109 : decode cX9_layBy 109 = .ok (.iload 7, 2) := by decide +kernel
theorem dX9_layBy_111 : decode cX9_layBy 111 = .ok (.iadd, 1) := by decide +kernel
theorem dX9_layBy_112 : decode cX9_layBy 112 = .ok (.istore 8, 2) := by decide +kernel
theorem dX9_layBy_114 : decode cX9_layBy 114 = .ok (.iload 5, 2) := by decide +kernel
theorem dX9_layBy_116 : decode cX9_layBy 116 = .ok (.aload_n 0, 1) := by decide +kernel
theorem dX9_layBy_117 : decode cX9_layBy 117 = .ok (.aload_n 0, 1) := by decide +kernel
theorem dX9_layBy_118 : decode cX9_layBy 118 = .ok (.getfield 37, 3) := by decide +kernel
theorem dX9_layBy_121 : decode cX9_layBy 121 = .ok (.iload 8, 2) := by decide +kernel
theorem dX9_layBy_123 : decode cX9_layBy 123 = .ok (.iaload, 1) := by decide +kernel
theorem dX9_layBy_124 : decode cX9_layBy 124 = .ok (.aload_n 0, 1) := by decide +kernel
theorem dX9_layBy_125 : decode cX9_layBy 125 = .ok (.getfield 37, 3) := by decide +kernel
theorem dX9_layBy_128 : decode cX9_layBy 128 = .ok (.iload 8, 2) := by decide +kernel
theorem dX9_layBy_130 : decode cX9_layBy 130 = .ok (.iconst 1, 1) := by decide +kernel
theorem dX9_layBy_131 : decode cX9_layBy 131 = .ok (.iadd, 1) := by decide +kernel
theorem dX9_layBy_132 : decode cX9_layBy 132 = .ok (.iaload, 1) := by decide +kernel
theorem dX9_layBy_133 : decode cX9_layBy 133 = .ok (.aload_n 0, 1) := by decide +kernel
theorem dX9_layBy_134 : decode cX9_layBy 134 = .ok (.getfield 37, 3) := by decide +kernel
theorem dX9_layBy_137 : decode cX9_layBy 137 = .ok (.iload 8, 2) := by decide +kernel
theorem dX9_layBy_139 : decode cX9_layBy 139 = .ok (.iconst 2, 1) := by decide +kernel
theorem dX9_layBy_140 : decode cX9_layBy 140 = .ok (.iadd, 1) := by decide +kernel
theorem dX9_layBy_141 : decode cX9_layBy 141 = .ok (.iaload, 1) := by decide +kernel
theorem dX9_layBy_142 : decode cX9_layBy 142 = .ok (.invokevirtual 296, 3) := by decide +kernel
theorem dX9_layBy_145 : decode cX9_layBy 145 = .ok (.ifCond .lt 7, 3) := by decide +kernel
theorem dX9_layBy_148 : decode cX9_layBy 148 = .ok (.iconst 1, 1) := by decide +kernel
theorem dX9_layBy_149 : decode cX9_layBy 149 = .ok (.goto 4, 3) := by decide +kernel
theorem dX9_layBy_152 : decode cX9_layBy 152 = .ok (.iconst 0, 1) := by decide +kernel
theorem dX9_layBy_153 : decode cX9_layBy 153 = .ok (.iadd, 1) := by decide +kernel
theorem dX9_layBy_154 : decode cX9_layBy 154 = .ok (.istore 5, 2) := by decide +kernel
theorem dX9_layBy_156 : decode cX9_layBy 156 = .ok (.iinc 6 1, 3) := by decide +kernel
theorem dX9_layBy_159 : decode cX9_layBy 159 = .ok (.goto (-95), 3) := by decide +kernel
theorem dX9_layBy_162 : decode cX9_layBy 162 = .ok (.iload 5, 2) := by decide +kernel
theorem dX9_layBy_164 : decode cX9_layBy 164 = .ok (.ireturn, 1) := by decide +kernel
theorem dX9_isUnder_0 : decode cX9_isUnder 0 = .ok (.iload_n 1, 1) := by decide +kernel
theorem dX9_isUnder_1 : decode cX9_isUnder 1 = .ok (.ifCond .eq 28, 3) := by decide +kernel
theorem dX9_isUnder_4 : decode cX9_isUnder 4 = .ok (.iload_n 0, 1) := by decide +kernel
theorem dX9_isUnder_5 : decode cX9_isUnder 5 = .ok (.iload_n 1, 1) := by decide +kernel
theorem dX9_isUnder_6 : decode cX9_isUnder 6 = .ok (.if_icmp .eq 23, 3) := by decide +kernel
theorem dX9_isUnder_9 : decode cX9_isUnder 9 = .ok (.iload_n 1, 1) := by decide +kernel
theorem dX9_isUnder_10 : decode cX9_isUnder 10 = .ok (.iconst 1, 1) := by decide +kernel
theorem dX9_isUnder_11 : decode cX9_isUnder 11 = .ok (.if_icmp .ne 8, 3) := by decide +kernel
theorem dX9_isUnder_14 : decode cX9_isUnder 14 = .ok (.iload_n 0, 1) := by decide +kernel
theorem dX9_isUnder_15 : decode cX9_isUnder 15 = .ok (.iconst 3, 1) := by decide +kernel
theorem dX9_isUnder_16 : decode cX9_isUnder 16 = .ok (.if_icmp .eq 13, 3) := by decide +kernel
theorem dX9_isUnder_19 : decode cX9_isUnder 19 = .ok (.iload_n 1, 1) := by decide +kernel
theorem dX9_isUnder_20 : decode cX9_isUnder 20 = .ok (.iconst 2, 1) := by decide +kernel
theorem dX9_isUnder_21 : decode cX9_isUnder 21 = .ok (.if_icmp .ne 12, 3) := by decide +kernel
theorem dX9_isUnder_24 : decode cX9_isUnder 24 = .ok (.iload_n 0, 1) := by decide +kernel
theorem dX9_isUnder_25 : decode cX9_isUnder 25 = .ok (.iconst 4, 1) := by decide +kernel
theorem dX9_isUnder_26 : decode cX9_isUnder 26 = .ok (.if_icmp .ne 7, 3) := by decide +kernel
theorem dX9_isUnder_29 : decode cX9_isUnder 29 = .ok (.iconst 1, 1) := by decide +kernel
theorem dX9_isUnder_30 : decode cX9_isUnder 30 = .ok (.goto 4, 3) := by decide +kernel
theorem dX9_isUnder_33 : decode cX9_isUnder 33 = .ok (.iconst 0, 1) := by decide +kernel
theorem dX9_isUnder_34 : decode cX9_isUnder 34 = .ok (.ireturn, 1) := by decide +kernel
theorem dX9_taken_0 : decode cX9_taken 0 = .ok (.iload_n 2, 1) := by decide +kernel
theorem dX9_taken_1 : decode cX9_taken 1 = .ok (.iconst 0, 1) := by decide +kernel
theorem dX9_taken_2 : decode cX9_taken 2 = .ok (.bipush 6, 2) := by decide +kernel
theorem dX9_taken_4 : decode cX9_taken 4 = .ok (.invokestatic 76, 3) := by decide +kernel
theorem dX9_taken_7 : decode cX9_taken 7 = .ok (.ifCond .ne 7, 3) := by decide +kernel
theorem dX9_taken_10 : decode cX9_taken 10 = .ok (.ldc2_w 299, 3) := by decide +kernel
theorem dX9_taken_13 : decode cX9_taken 13 = .ok (.lreturn, 1) := by decide +kernel
theorem dX9_taken_14 : decode cX9_taken 14 = .ok (.iload_n 1, 1) := by decide +kernel
theorem dX9_taken_15 : decode cX9_taken 15 = .ok (.iconst 0, 1) := by decide +kernel
theorem dX9_taken_16 : decode cX9_taken 16 = .ok (.bipush 31, 2) := by decide +kernel
theorem dX9_taken_18 : decode cX9_taken 18 = .ok (.invokestatic 76, 3) := by decide +kernel
theorem dX9_taken_21 : decode cX9_taken 21 = .ok (.ifCond .ne 7, 3) := by decide +kernel
theorem dX9_taken_24 : decode cX9_taken 24 = .ok (.ldc2_w 301, 3) := by decide +kernel
theorem dX9_taken_27 : decode cX9_taken 27 = .ok (.lreturn, 1) := by decide +kernel
theorem dX9_taken_28 : decode cX9_taken 28 = .ok (.iload_n 1, 1) := by decide +kernel
theorem dX9_taken_29 : decode cX9_taken 29 = .ok (.bipush 16, 2) := by decide +kernel
theorem dX9_taken_31 : decode cX9_taken 31 = .ok (.if_icmp .ge 31, 3) := by decide +kernel
theorem dX9_taken_34 : decode cX9_taken 34 = .ok (.iload_n 2, 1) := by decide +kernel
theorem dX9_taken_35 : decode cX9_taken 35 = .ok (.bipush 6, 2) := by decide +kernel
theorem dX9_taken_37 : decode cX9_taken 37 = .ok (.if_icmp .ge 21, 3) := by decide +kernel
theorem dX9_taken_40 : decode cX9_taken 40 = .ok (.aload_n 0, 1) := by decide +kernel
theorem dX9_taken_41 : decode cX9_taken 41 = .ok (.getfield 7, 3) := by decide +kernel
theorem dX9_taken_44 : decode cX9_taken 44 = .ok (.iload_n 1, 1) := by decide +kernel
theorem dX9_taken_45 : decode cX9_taken 45 = .ok (.iaload, 1) := by decide +kernel
theorem dX9_taken_46 : decode cX9_taken 46 = .ok (.iload_n 2, 1) := by decide +kernel
theorem dX9_taken_47 : decode cX9_taken 47 = .ok (.invokestatic 303, 3) := by decide +kernel
theorem dX9_taken_50 : decode cX9_taken 50 = .ok (.ifCond .eq 8, 3) := by decide +kernel
theorem dX9_taken_53 : decode cX9_taken 53 = .ok (.iload_n 1, 1) := by decide +kernel
theorem dX9_taken_54 : decode cX9_taken 54 = .ok (.i2l, 1) := by decide +kernel
theorem dX9_taken_55 : decode cX9_taken 55 = .ok (.goto 6, 3) := by decide +kernel
theorem dX9_taken_58 : decode cX9_taken 58 = .ok (.ldc2_w 306, 3) := by decide +kernel
theorem dX9_taken_61 : decode cX9_taken 61 = .ok (.lreturn, 1) := by decide +kernel
theorem dX9_taken_62 : decode cX9_taken 62 = .ok (.iload_n 1, 1) := by decide +kernel
theorem dX9_taken_63 : decode cX9_taken 63 = .ok (.bipush 16, 2) := by decide +kernel
theorem dX9_taken_65 : decode cX9_taken 65 = .ok (.isub, 1) := by decide +kernel
theorem dX9_taken_66 : decode cX9_taken 66 = .ok (.istore_n 3, 1) := by decide +kernel
theorem dX9_taken_67 : decode cX9_taken 67 = .ok (.aload_n 0, 1) := by decide +kernel
theorem dX9_taken_68 : decode cX9_taken 68 = .ok (.getfield 16, 3) := by decide +kernel
theorem dX9_taken_71 : decode cX9_taken 71 = .ok (.iconst 1, 1) := by decide +kernel
theorem dX9_taken_72 : decode cX9_taken 72 = .ok (.iaload, 1) := by decide +kernel
theorem dX9_taken_73 : decode cX9_taken 73 = .ok (.iload_n 3, 1) := by decide +kernel
theorem dX9_taken_74 : decode cX9_taken 74 = .ok (.invokestatic 190, 3) := by decide +kernel
theorem dX9_taken_77 : decode cX9_taken 77 = .ok (.ifCond .ne 9, 3) := by decide +kernel
theorem dX9_taken_80 : decode cX9_taken 80 = .ok (.ldc2_w 308, 3) := by decide +kernel
theorem dX9_taken_83 : decode cX9_taken 83 = .ok (.goto 33, 3) := by decide +kernel
theorem dX9_taken_86 : decode cX9_taken 86 = .ok (.iload_n 2, 1) := by decide +kernel
theorem dX9_taken_87 : decode cX9_taken 87 = .ok (.bipush 6, 2) := by decide +kernel
theorem dX9_taken_89 : decode cX9_taken 89 = .ok (.if_icmp .ne 24, 3) := by decide +kernel
theorem dX9_taken_92 : decode cX9_taken 92 = .ok (.aload_n 0, 1) := by decide +kernel
theorem dX9_taken_93 : decode cX9_taken 93 = .ok (.getfield 16, 3) := by decide +kernel
theorem dX9_taken_96 : decode cX9_taken 96 = .ok (.iconst 1, 1) := by decide +kernel
theorem dX9_taken_97 : decode cX9_taken 97 = .ok (.iaload, 1) := by decide +kernel
theorem dX9_taken_98 : decode cX9_taken 98 = .ok (.iconst 1, 1) := by decide +kernel
theorem dX9_taken_99 : decode cX9_taken 99 = .ok (.iload_n 3, 1) := by decide +kernel
theorem dX9_taken_100 : decode cX9_taken 100 = .ok (.iconst 1, 1) := by decide +kernel
theorem dX9_taken_101 : decode cX9_taken 101 = .ok (.iadd, 1) := by decide +kernel
theorem dX9_taken_102 : decode cX9_taken 102 = .ok (.ishl, 1) := by decide +kernel
theorem dX9_taken_103 : decode cX9_taken 103 = .ok (.iconst 1, 1) := by decide +kernel
theorem dX9_taken_104 : decode cX9_taken 104 = .ok (.isub, 1) := by decide +kernel
theorem dX9_taken_105 : decode cX9_taken 105 = .ok (.iand, 1) := by decide +kernel
theorem dX9_taken_106 : decode cX9_taken 106 = .ok (.invokestatic 151, 3) := by decide +kernel
theorem dX9_taken_109 : decode cX9_taken 109 = .ok (.i2l, 1) := by decide +kernel
theorem dX9_taken_110 : decode cX9_taken 110 = .ok (.goto 6, 3) := by decide +kernel
theorem dX9_taken_113 : decode cX9_taken 113 = .ok (.ldc2_w 306, 3) := by decide +kernel
theorem dX9_taken_116 : decode cX9_taken 116 = .ok (.lreturn, 1) := by decide +kernel

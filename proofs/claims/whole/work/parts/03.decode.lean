theorem d_BT_init_0 : decode b_BT_init 0 = .ok (.aload_n 0, 1) := by decide +kernel
theorem d_BT_init_1 : decode b_BT_init 1 = .ok (.invokespecial 1, 3) := by decide +kernel
theorem d_BT_init_4 : decode b_BT_init 4 = .ok (.aload_n 0, 1) := by decide +kernel
theorem d_BT_init_5 : decode b_BT_init 5 = .ok (.new 7, 3) := by decide +kernel
theorem d_BT_init_8 : decode b_BT_init 8 = .ok (.dup, 1) := by decide +kernel
theorem d_BT_init_9 : decode b_BT_init 9 = .ok (.invokespecial 9, 3) := by decide +kernel
theorem d_BT_init_12 : decode b_BT_init 12 = .ok (.putfield 10, 3) := by decide +kernel
theorem d_BT_init_15 : decode b_BT_init 15 = .ok (.aload_n 0, 1) := by decide +kernel
theorem d_BT_init_16 : decode b_BT_init 16 = .ok (.new 16, 3) := by decide +kernel
theorem d_BT_init_19 : decode b_BT_init 19 = .ok (.dup, 1) := by decide +kernel
theorem d_BT_init_20 : decode b_BT_init 20 = .ok (.iload_n 1, 1) := by decide +kernel
theorem d_BT_init_21 : decode b_BT_init 21 = .ok (.aload_n 0, 1) := by decide +kernel
theorem d_BT_init_22 : decode b_BT_init 22 = .ok (.getfield 10, 3) := by decide +kernel
theorem d_BT_init_25 : decode b_BT_init 25 = .ok (.invokespecial 18, 3) := by decide +kernel
theorem d_BT_init_28 : decode b_BT_init 28 = .ok (.putfield 21, 3) := by decide +kernel
theorem d_BT_init_31 : decode b_BT_init 31 = .ok (.aload_n 0, 1) := by decide +kernel
theorem d_BT_init_32 : decode b_BT_init 32 = .ok (.new 25, 3) := by decide +kernel
theorem d_BT_init_35 : decode b_BT_init 35 = .ok (.dup, 1) := by decide +kernel
theorem d_BT_init_36 : decode b_BT_init 36 = .ok (.invokespecial 27, 3) := by decide +kernel
theorem d_BT_init_39 : decode b_BT_init 39 = .ok (.putfield 28, 3) := by decide +kernel
theorem d_BT_init_42 : decode b_BT_init 42 = .ok (.aload_n 0, 1) := by decide +kernel
theorem d_BT_init_43 : decode b_BT_init 43 = .ok (.new 32, 3) := by decide +kernel
theorem d_BT_init_46 : decode b_BT_init 46 = .ok (.dup, 1) := by decide +kernel
theorem d_BT_init_47 : decode b_BT_init 47 = .ok (.invokespecial 34, 3) := by decide +kernel
theorem d_BT_init_50 : decode b_BT_init 50 = .ok (.putfield 35, 3) := by decide +kernel
theorem d_BT_init_53 : decode b_BT_init 53 = .ok (.aload_n 0, 1) := by decide +kernel
theorem d_BT_init_54 : decode b_BT_init 54 = .ok (.new 39, 3) := by decide +kernel
theorem d_BT_init_57 : decode b_BT_init 57 = .ok (.dup, 1) := by decide +kernel
theorem d_BT_init_58 : decode b_BT_init 58 = .ok (.invokespecial 41, 3) := by decide +kernel
theorem d_BT_init_61 : decode b_BT_init 61 = .ok (.putfield 42, 3) := by decide +kernel
theorem d_BT_init_64 : decode b_BT_init 64 = .ok (.return_, 1) := by decide +kernel
theorem d_BT_put_0 : decode b_BT_put 0 = .ok (.aload_n 0, 1) := by decide +kernel
theorem d_BT_put_1 : decode b_BT_put 1 = .ok (.aload_n 0, 1) := by decide +kernel
theorem d_BT_put_2 : decode b_BT_put 2 = .ok (.iload_n 1, 1) := by decide +kernel
theorem d_BT_put_3 : decode b_BT_put 3 = .ok (.invokevirtual 46, 3) := by decide +kernel
theorem d_BT_put_6 : decode b_BT_put 6 = .ok (.invokevirtual 50, 3) := by decide +kernel
theorem d_BT_put_9 : decode b_BT_put 9 = .ok (.aload_n 0, 1) := by decide +kernel
theorem d_BT_put_10 : decode b_BT_put 10 = .ok (.invokevirtual 54, 3) := by decide +kernel
theorem d_BT_put_13 : decode b_BT_put 13 = .ok (.aload_n 0, 1) := by decide +kernel
theorem d_BT_put_14 : decode b_BT_put 14 = .ok (.getfield 28, 3) := by decide +kernel
theorem d_BT_put_17 : decode b_BT_put 17 = .ok (.iload_n 1, 1) := by decide +kernel
theorem d_BT_put_18 : decode b_BT_put 18 = .ok (.iload_n 2, 1) := by decide +kernel
theorem d_BT_put_19 : decode b_BT_put 19 = .ok (.invokevirtual 57, 3) := by decide +kernel
theorem d_BT_put_22 : decode b_BT_put 22 = .ok (.aload_n 0, 1) := by decide +kernel
theorem d_BT_put_23 : decode b_BT_put 23 = .ok (.getfield 28, 3) := by decide +kernel
theorem d_BT_put_26 : decode b_BT_put 26 = .ok (.invokevirtual 61, 3) := by decide +kernel
theorem d_BT_put_29 : decode b_BT_put 29 = .ok (.ireturn, 1) := by decide +kernel
theorem d_BT_drop_0 : decode b_BT_drop 0 = .ok (.aload_n 0, 1) := by decide +kernel
theorem d_BT_drop_1 : decode b_BT_drop 1 = .ok (.aload_n 0, 1) := by decide +kernel
theorem d_BT_drop_2 : decode b_BT_drop 2 = .ok (.iload_n 1, 1) := by decide +kernel
theorem d_BT_drop_3 : decode b_BT_drop 3 = .ok (.invokevirtual 46, 3) := by decide +kernel
theorem d_BT_drop_6 : decode b_BT_drop 6 = .ok (.invokevirtual 50, 3) := by decide +kernel
theorem d_BT_drop_9 : decode b_BT_drop 9 = .ok (.aload_n 0, 1) := by decide +kernel
theorem d_BT_drop_10 : decode b_BT_drop 10 = .ok (.invokevirtual 54, 3) := by decide +kernel
theorem d_BT_drop_13 : decode b_BT_drop 13 = .ok (.aload_n 0, 1) := by decide +kernel
theorem d_BT_drop_14 : decode b_BT_drop 14 = .ok (.getfield 28, 3) := by decide +kernel
theorem d_BT_drop_17 : decode b_BT_drop 17 = .ok (.iload_n 1, 1) := by decide +kernel
theorem d_BT_drop_18 : decode b_BT_drop 18 = .ok (.invokevirtual 65, 3) := by decide +kernel
theorem d_BT_drop_21 : decode b_BT_drop 21 = .ok (.aload_n 0, 1) := by decide +kernel
theorem d_BT_drop_22 : decode b_BT_drop 22 = .ok (.getfield 28, 3) := by decide +kernel
theorem d_BT_drop_25 : decode b_BT_drop 25 = .ok (.invokevirtual 61, 3) := by decide +kernel
theorem d_BT_drop_28 : decode b_BT_drop 28 = .ok (.ireturn, 1) := by decide +kernel
theorem d_BT_undo_0 : decode b_BT_undo 0 = .ok (.aload_n 0, 1) := by decide +kernel
theorem d_BT_undo_1 : decode b_BT_undo 1 = .ok (.invokevirtual 54, 3) := by decide +kernel
theorem d_BT_undo_4 : decode b_BT_undo 4 = .ok (.aload_n 0, 1) := by decide +kernel
theorem d_BT_undo_5 : decode b_BT_undo 5 = .ok (.getfield 28, 3) := by decide +kernel
theorem d_BT_undo_8 : decode b_BT_undo 8 = .ok (.invokevirtual 61, 3) := by decide +kernel
theorem d_BT_undo_11 : decode b_BT_undo 11 = .ok (.istore_n 1, 1) := by decide +kernel
theorem d_BT_undo_12 : decode b_BT_undo 12 = .ok (.aload_n 0, 1) := by decide +kernel
theorem d_BT_undo_13 : decode b_BT_undo 13 = .ok (.getfield 28, 3) := by decide +kernel
theorem d_BT_undo_16 : decode b_BT_undo 16 = .ok (.invokevirtual 69, 3) := by decide +kernel
theorem d_BT_undo_19 : decode b_BT_undo 19 = .ok (.iload_n 1, 1) := by decide +kernel
theorem d_BT_undo_20 : decode b_BT_undo 20 = .ok (.ireturn, 1) := by decide +kernel
theorem d_BT_get_0 : decode b_BT_get 0 = .ok (.aload_n 0, 1) := by decide +kernel
theorem d_BT_get_1 : decode b_BT_get 1 = .ok (.aload_n 0, 1) := by decide +kernel
theorem d_BT_get_2 : decode b_BT_get 2 = .ok (.iload_n 1, 1) := by decide +kernel
theorem d_BT_get_3 : decode b_BT_get 3 = .ok (.invokevirtual 46, 3) := by decide +kernel
theorem d_BT_get_6 : decode b_BT_get 6 = .ok (.invokevirtual 50, 3) := by decide +kernel
theorem d_BT_get_9 : decode b_BT_get 9 = .ok (.aload_n 0, 1) := by decide +kernel
theorem d_BT_get_10 : decode b_BT_get 10 = .ok (.invokevirtual 54, 3) := by decide +kernel
theorem d_BT_get_13 : decode b_BT_get 13 = .ok (.aload_n 0, 1) := by decide +kernel
theorem d_BT_get_14 : decode b_BT_get 14 = .ok (.getfield 28, 3) := by decide +kernel
theorem d_BT_get_17 : decode b_BT_get 17 = .ok (.iload_n 1, 1) := by decide +kernel
theorem d_BT_get_18 : decode b_BT_get 18 = .ok (.invokevirtual 72, 3) := by decide +kernel
theorem d_BT_get_21 : decode b_BT_get 21 = .ok (.ifCond .eq 7, 3) := by decide +kernel
theorem d_BT_get_24 : decode b_BT_get 24 = .ok (.ldc2_w 75, 3) := by decide +kernel
theorem d_BT_get_27 : decode b_BT_get 27 = .ok (.lreturn, 1) := by decide +kernel
theorem d_BT_get_28 : decode b_BT_get 28 = .ok (.aload_n 0, 1) := by decide +kernel
theorem d_BT_get_29 : decode b_BT_get 29 = .ok (.getfield 28, 3) := by decide +kernel
theorem d_BT_get_32 : decode b_BT_get 32 = .ok (.iload_n 1, 1) := by decide +kernel
theorem d_BT_get_33 : decode b_BT_get 33 = .ok (.invokevirtual 77, 3) := by decide +kernel
theorem d_BT_get_36 : decode b_BT_get 36 = .ok (.ifCond .eq 15, 3) := by decide +kernel
theorem d_BT_get_39 : decode b_BT_get 39 = .ok (.aload_n 0, 1) := by decide +kernel
theorem d_BT_get_40 : decode b_BT_get 40 = .ok (.getfield 28, 3) := by decide +kernel
theorem d_BT_get_43 : decode b_BT_get 43 = .ok (.iload_n 1, 1) := by decide +kernel
theorem d_BT_get_44 : decode b_BT_get 44 = .ok (.invokevirtual 80, 3) := by decide +kernel
theorem d_BT_get_47 : decode b_BT_get 47 = .ok (.i2l, 1) := by decide +kernel
theorem d_BT_get_48 : decode b_BT_get 48 = .ok (.goto 15, 3) := by decide +kernel
theorem d_BT_get_51 : decode b_BT_get 51 = .ok (.aload_n 0, 1) := by decide +kernel
theorem d_BT_get_52 : decode b_BT_get 52 = .ok (.aload_n 0, 1) := by decide +kernel
theorem d_BT_get_53 : decode b_BT_get 53 = .ok (.getfield 35, 3) := by decide +kernel
theorem d_BT_get_56 : decode b_BT_get 56 = .ok (.invokevirtual 84, 3) := by decide +kernel
theorem d_BT_get_59 : decode b_BT_get 59 = .ok (.iload_n 1, 1) := by decide +kernel
theorem d_BT_get_60 : decode b_BT_get 60 = .ok (.invokevirtual 87, 3) := by decide +kernel
theorem d_BT_get_63 : decode b_BT_get 63 = .ok (.lreturn, 1) := by decide +kernel
theorem d_BT_commit_0 : decode b_BT_commit 0 = .ok (.aload_n 0, 1) := by decide +kernel
theorem d_BT_commit_1 : decode b_BT_commit 1 = .ok (.invokevirtual 54, 3) := by decide +kernel
theorem d_BT_commit_4 : decode b_BT_commit 4 = .ok (.aload_n 0, 1) := by decide +kernel
theorem d_BT_commit_5 : decode b_BT_commit 5 = .ok (.getfield 28, 3) := by decide +kernel
theorem d_BT_commit_8 : decode b_BT_commit 8 = .ok (.invokevirtual 61, 3) := by decide +kernel
theorem d_BT_commit_11 : decode b_BT_commit 11 = .ok (.ifCond .ne 11, 3) := by decide +kernel
theorem d_BT_commit_14 : decode b_BT_commit 14 = .ok (.aload_n 0, 1) := by decide +kernel
theorem d_BT_commit_15 : decode b_BT_commit 15 = .ok (.getfield 35, 3) := by decide +kernel
theorem d_BT_commit_18 : decode b_BT_commit 18 = .ok (.invokevirtual 91, 3) := by decide +kernel
theorem d_BT_commit_21 : decode b_BT_commit 21 = .ok (.ireturn, 1) := by decide +kernel
theorem d_BT_commit_22 : decode b_BT_commit 22 = .ok (.aload_n 0, 1) := by decide +kernel
theorem d_BT_commit_23 : decode b_BT_commit 23 = .ok (.getfield 42, 3) := by decide +kernel
theorem d_BT_commit_26 : decode b_BT_commit 26 = .ok (.invokevirtual 94, 3) := by decide +kernel
theorem d_BT_commit_29 : decode b_BT_commit 29 = .ok (.aload_n 0, 1) := by decide +kernel
theorem d_BT_commit_30 : decode b_BT_commit 30 = .ok (.getfield 42, 3) := by decide +kernel
theorem d_BT_commit_33 : decode b_BT_commit 33 = .ok (.aload_n 0, 1) := by decide +kernel
theorem d_BT_commit_34 : decode b_BT_commit 34 = .ok (.getfield 28, 3) := by decide +kernel
theorem d_BT_commit_37 : decode b_BT_commit 37 = .ok (.invokevirtual 95, 3) := by decide +kernel
theorem d_BT_commit_40 : decode b_BT_commit 40 = .ok (.aload_n 0, 1) := by decide +kernel
theorem d_BT_commit_41 : decode b_BT_commit 41 = .ok (.getfield 42, 3) := by decide +kernel
theorem d_BT_commit_44 : decode b_BT_commit 44 = .ok (.aload_n 0, 1) := by decide +kernel
theorem d_BT_commit_45 : decode b_BT_commit 45 = .ok (.getfield 21, 3) := by decide +kernel
theorem d_BT_commit_48 : decode b_BT_commit 48 = .ok (.aload_n 0, 1) := by decide +kernel
theorem d_BT_commit_49 : decode b_BT_commit 49 = .ok (.getfield 35, 3) := by decide +kernel
theorem d_BT_commit_52 : decode b_BT_commit 52 = .ok (.invokevirtual 84, 3) := by decide +kernel
theorem d_BT_commit_55 : decode b_BT_commit 55 = .ok (.invokevirtual 99, 3) := by decide +kernel
theorem d_BT_commit_58 : decode b_BT_commit 58 = .ok (.ifCond .ne 6, 3) := by decide +kernel
theorem d_BT_commit_61 : decode b_BT_commit 61 = .ok (.bipush (-2), 2) := by decide +kernel
theorem d_BT_commit_63 : decode b_BT_commit 63 = .ok (.ireturn, 1) := by decide +kernel
theorem d_BT_commit_64 : decode b_BT_commit 64 = .ok (.aload_n 0, 1) := by decide +kernel
theorem d_BT_commit_65 : decode b_BT_commit 65 = .ok (.getfield 42, 3) := by decide +kernel
theorem d_BT_commit_68 : decode b_BT_commit 68 = .ok (.aload_n 0, 1) := by decide +kernel
theorem d_BT_commit_69 : decode b_BT_commit 69 = .ok (.getfield 28, 3) := by decide +kernel
theorem d_BT_commit_72 : decode b_BT_commit 72 = .ok (.invokevirtual 103, 3) := by decide +kernel
theorem d_BT_commit_75 : decode b_BT_commit 75 = .ok (.aload_n 0, 1) := by decide +kernel
theorem d_BT_commit_76 : decode b_BT_commit 76 = .ok (.iconst 0, 1) := by decide +kernel
theorem d_BT_commit_77 : decode b_BT_commit 77 = .ok (.invokevirtual 106, 3) := by decide +kernel
theorem d_BT_commit_80 : decode b_BT_commit 80 = .ok (.istore_n 1, 1) := by decide +kernel
theorem d_BT_commit_81 : decode b_BT_commit 81 = .ok (.iload_n 1, 1) := by decide +kernel
theorem d_BT_commit_82 : decode b_BT_commit 82 = .ok (.ifCond .le 10, 3) := by decide +kernel
theorem d_BT_commit_85 : decode b_BT_commit 85 = .ok (.aload_n 0, 1) := by decide +kernel
theorem d_BT_commit_86 : decode b_BT_commit 86 = .ok (.getfield 28, 3) := by decide +kernel
theorem d_BT_commit_89 : decode b_BT_commit 89 = .ok (.invokevirtual 69, 3) := by decide +kernel
theorem d_BT_commit_92 : decode b_BT_commit 92 = .ok (.iload_n 1, 1) := by decide +kernel
theorem d_BT_commit_93 : decode b_BT_commit 93 = .ok (.ireturn, 1) := by decide +kernel
theorem d_BT_copy_0 : decode b_BT_copy 0 = .ok (.aload_n 0, 1) := by decide +kernel
theorem d_BT_copy_1 : decode b_BT_copy 1 = .ok (.invokevirtual 54, 3) := by decide +kernel
theorem d_BT_copy_4 : decode b_BT_copy 4 = .ok (.aload_n 0, 1) := by decide +kernel
theorem d_BT_copy_5 : decode b_BT_copy 5 = .ok (.getfield 42, 3) := by decide +kernel
theorem d_BT_copy_8 : decode b_BT_copy 8 = .ok (.invokevirtual 94, 3) := by decide +kernel
theorem d_BT_copy_11 : decode b_BT_copy 11 = .ok (.aload_n 0, 1) := by decide +kernel
theorem d_BT_copy_12 : decode b_BT_copy 12 = .ok (.getfield 42, 3) := by decide +kernel
theorem d_BT_copy_15 : decode b_BT_copy 15 = .ok (.invokevirtual 110, 3) := by decide +kernel
theorem d_BT_copy_18 : decode b_BT_copy 18 = .ok (.aload_n 0, 1) := by decide +kernel
theorem d_BT_copy_19 : decode b_BT_copy 19 = .ok (.getfield 42, 3) := by decide +kernel
theorem d_BT_copy_22 : decode b_BT_copy 22 = .ok (.aload_n 0, 1) := by decide +kernel
theorem d_BT_copy_23 : decode b_BT_copy 23 = .ok (.getfield 21, 3) := by decide +kernel
theorem d_BT_copy_26 : decode b_BT_copy 26 = .ok (.aload_n 0, 1) := by decide +kernel
theorem d_BT_copy_27 : decode b_BT_copy 27 = .ok (.getfield 35, 3) := by decide +kernel
theorem d_BT_copy_30 : decode b_BT_copy 30 = .ok (.invokevirtual 84, 3) := by decide +kernel
theorem d_BT_copy_33 : decode b_BT_copy 33 = .ok (.invokevirtual 99, 3) := by decide +kernel
theorem d_BT_copy_36 : decode b_BT_copy 36 = .ok (.ifCond .ne 6, 3) := by decide +kernel
theorem d_BT_copy_39 : decode b_BT_copy 39 = .ok (.bipush (-2), 2) := by decide +kernel
theorem d_BT_copy_41 : decode b_BT_copy 41 = .ok (.ireturn, 1) := by decide +kernel
theorem d_BT_copy_42 : decode b_BT_copy 42 = .ok (.aload_n 0, 1) := by decide +kernel
theorem d_BT_copy_43 : decode b_BT_copy 43 = .ok (.iconst 1, 1) := by decide +kernel
theorem d_BT_copy_44 : decode b_BT_copy 44 = .ok (.invokevirtual 106, 3) := by decide +kernel
theorem d_BT_copy_47 : decode b_BT_copy 47 = .ok (.ireturn, 1) := by decide +kernel
theorem d_BT_find_0 : decode b_BT_find 0 = .ok (.aload_n 0, 1) := by decide +kernel
theorem d_BT_find_1 : decode b_BT_find 1 = .ok (.aload_n 0, 1) := by decide +kernel
theorem d_BT_find_2 : decode b_BT_find 2 = .ok (.iload_n 1, 1) := by decide +kernel
theorem d_BT_find_3 : decode b_BT_find 3 = .ok (.invokevirtual 113, 3) := by decide +kernel
theorem d_BT_find_6 : decode b_BT_find 6 = .ok (.ifCond .eq 15, 3) := by decide +kernel
theorem d_BT_find_9 : decode b_BT_find 9 = .ok (.aload_n 0, 1) := by decide +kernel
theorem d_BT_find_10 : decode b_BT_find 10 = .ok (.iload_n 2, 1) := by decide +kernel
theorem d_BT_find_11 : decode b_BT_find 11 = .ok (.invokevirtual 46, 3) := by decide +kernel
theorem d_BT_find_14 : decode b_BT_find 14 = .ok (.ifCond .eq 7, 3) := by decide +kernel
theorem d_BT_find_17 : decode b_BT_find 17 = .ok (.iconst 1, 1) := by decide +kernel
theorem d_BT_find_18 : decode b_BT_find 18 = .ok (.goto 4, 3) := by decide +kernel
theorem d_BT_find_21 : decode b_BT_find 21 = .ok (.iconst 0, 1) := by decide +kernel
theorem d_BT_find_22 : decode b_BT_find 22 = .ok (.invokevirtual 50, 3) := by decide +kernel
theorem d_BT_find_25 : decode b_BT_find 25 = .ok (.aload_n 0, 1) := by decide +kernel
theorem d_BT_find_26 : decode b_BT_find 26 = .ok (.invokevirtual 54, 3) := by decide +kernel
theorem d_BT_find_29 : decode b_BT_find 29 = .ok (.aload_n 0, 1) := by decide +kernel
theorem d_BT_find_30 : decode b_BT_find 30 = .ok (.aload_n 0, 1) := by decide +kernel
theorem d_BT_find_31 : decode b_BT_find 31 = .ok (.getfield 35, 3) := by decide +kernel
theorem d_BT_find_34 : decode b_BT_find 34 = .ok (.iload_n 1, 1) := by decide +kernel
theorem d_BT_find_35 : decode b_BT_find 35 = .ok (.invokevirtual 116, 3) := by decide +kernel
theorem d_BT_find_38 : decode b_BT_find 38 = .ok (.iload_n 2, 1) := by decide +kernel
theorem d_BT_find_39 : decode b_BT_find 39 = .ok (.invokevirtual 87, 3) := by decide +kernel
theorem d_BT_find_42 : decode b_BT_find 42 = .ok (.lreturn, 1) := by decide +kernel
theorem d_BT_next_0 : decode b_BT_next 0 = .ok (.aload_n 0, 1) := by decide +kernel
theorem d_BT_next_1 : decode b_BT_next 1 = .ok (.aload_n 0, 1) := by decide +kernel
theorem d_BT_next_2 : decode b_BT_next 2 = .ok (.iload_n 1, 1) := by decide +kernel
theorem d_BT_next_3 : decode b_BT_next 3 = .ok (.invokevirtual 113, 3) := by decide +kernel
theorem d_BT_next_6 : decode b_BT_next 6 = .ok (.ifCond .eq 15, 3) := by decide +kernel
theorem d_BT_next_9 : decode b_BT_next 9 = .ok (.aload_n 0, 1) := by decide +kernel
theorem d_BT_next_10 : decode b_BT_next 10 = .ok (.iload_n 2, 1) := by decide +kernel
theorem d_BT_next_11 : decode b_BT_next 11 = .ok (.invokevirtual 46, 3) := by decide +kernel
theorem d_BT_next_14 : decode b_BT_next 14 = .ok (.ifCond .eq 7, 3) := by decide +kernel
theorem d_BT_next_17 : decode b_BT_next 17 = .ok (.iconst 1, 1) := by decide +kernel
theorem d_BT_next_18 : decode b_BT_next 18 = .ok (.goto 4, 3) := by decide +kernel
theorem d_BT_next_21 : decode b_BT_next 21 = .ok (.iconst 0, 1) := by decide +kernel
theorem d_BT_next_22 : decode b_BT_next 22 = .ok (.invokevirtual 50, 3) := by decide +kernel
theorem d_BT_next_25 : decode b_BT_next 25 = .ok (.aload_n 0, 1) := by decide +kernel
theorem d_BT_next_26 : decode b_BT_next 26 = .ok (.invokevirtual 54, 3) := by decide +kernel
theorem d_BT_next_29 : decode b_BT_next 29 = .ok (.aload_n 0, 1) := by decide +kernel
theorem d_BT_next_30 : decode b_BT_next 30 = .ok (.getfield 35, 3) := by decide +kernel
theorem d_BT_next_33 : decode b_BT_next 33 = .ok (.iload_n 1, 1) := by decide +kernel
theorem d_BT_next_34 : decode b_BT_next 34 = .ok (.invokevirtual 116, 3) := by decide +kernel
theorem d_BT_next_37 : decode b_BT_next 37 = .ok (.istore_n 3, 1) := by decide +kernel
theorem d_BT_next_38 : decode b_BT_next 38 = .ok (.iload_n 2, 1) := by decide +kernel
theorem d_BT_next_39 : decode b_BT_next 39 = .ok (.bipush 7, 2) := by decide +kernel
theorem d_BT_next_41 : decode b_BT_next 41 = .ok (.iand, 1) := by decide +kernel
theorem d_BT_next_42 : decode b_BT_next 42 = .ok (.istore 4, 2) := by decide +kernel
theorem d_BT_next_44 : decode b_BT_next 44 = .ok (.iload_n 2, 1) := by decide +kernel
theorem d_BT_next_45 : decode b_BT_next 45 = .ok (.iconst 3, 1) := by decide +kernel
theorem d_BT_next_46 : decode b_BT_next 46 = .ok (.ishr, 1) := by decide +kernel
theorem d_BT_next_47 : decode b_BT_next 47 = .ok (.istore 5, 2) := by decide +kernel
theorem d_BT_next_49 : decode b_BT_next 49 = .ok (.iload 5, 2) := by decide +kernel
theorem d_BT_next_51 : decode b_BT_next 51 = .ok (.bipush 64, 2) := by decide +kernel
theorem d_BT_next_53 : decode b_BT_next 53 = .ok (.if_icmp .ge 69, 3) := by decide +kernel
theorem d_BT_next_56 : decode b_BT_next 56 = .ok (.aload_n 0, 1) := by decide +kernel
theorem d_BT_next_57 : decode b_BT_next 57 = .ok (.iload_n 3, 1) := by decide +kernel
theorem d_BT_next_58 : decode b_BT_next 58 = .ok (.iload 5, 2) := by decide +kernel
theorem d_BT_next_60 : decode b_BT_next 60 = .ok (.invokevirtual 119, 3) := by decide +kernel
theorem d_BT_next_63 : decode b_BT_next 63 = .ok (.istore 6, 2) := by decide +kernel
theorem d_BT_next_65 : decode b_BT_next 65 = .ok (.iload 6, 2) := by decide +kernel
theorem d_BT_next_67 : decode b_BT_next 67 = .ok (.bipush (-2), 2) := by decide +kernel
theorem d_BT_next_69 : decode b_BT_next 69 = .ok (.if_icmp .ne 6, 3) := by decide +kernel
theorem d_BT_next_72 : decode b_BT_next 72 = .ok (.bipush (-2), 2) := by decide +kernel
theorem d_BT_next_74 : decode b_BT_next 74 = .ok (.ireturn, 1) := by decide +kernel
theorem d_BT_next_75 : decode b_BT_next 75 = .ok (.iload 6, 2) := by decide +kernel
theorem d_BT_next_77 : decode b_BT_next 77 = .ok (.iconst (-1), 1) := by decide +kernel
theorem d_BT_next_78 : decode b_BT_next 78 = .ok (.if_icmp .ne 7, 3) := by decide +kernel
theorem d_BT_next_81 : decode b_BT_next 81 = .ok (.iconst (-1), 1) := by decide +kernel
theorem d_BT_next_82 : decode b_BT_next 82 = .ok (.goto 14, 3) := by decide +kernel
theorem d_BT_next_85 : decode b_BT_next 85 = .ok (.aload_n 0, 1) := by decide +kernel
theorem d_BT_next_86 : decode b_BT_next 86 = .ok (.getfield 21, 3) := by decide +kernel
theorem d_BT_next_89 : decode b_BT_next 89 = .ok (.iload 6, 2) := by decide +kernel
theorem d_BT_next_91 : decode b_BT_next 91 = .ok (.iload 4, 2) := by decide +kernel
theorem d_BT_next_93 : decode b_BT_next 93 = .ok (.invokevirtual 123, 3) := by decide +kernel
theorem d_BT_next_96 : decode b_BT_next 96 = .ok (.istore 7, 2) := by decide +kernel
theorem d_BT_next_98 : decode b_BT_next 98 = .ok (.iload 7, 2) := by decide +kernel
theorem d_BT_next_100 : decode b_BT_next 100 = .ok (.iconst (-1), 1) := by decide +kernel
theorem d_BT_next_101 : decode b_BT_next 101 = .ok (.if_icmp .eq 12, 3) := by decide +kernel
theorem d_BT_next_104 : decode b_BT_next 104 = .ok (.iload 5, 2) := by decide +kernel
theorem d_BT_next_106 : decode b_BT_next 106 = .ok (.bipush 8, 2) := by decide +kernel
theorem d_BT_next_108 : decode b_BT_next 108 = .ok (.imul, 1) := by decide +kernel
theorem d_BT_next_109 : decode b_BT_next 109 = .ok (.iload 7, 2) := by decide +kernel
theorem d_BT_next_111 : decode b_BT_next 111 = .ok (.iadd, 1) := by decide +kernel
theorem d_BT_next_112 : decode b_BT_next 112 = .ok (.ireturn, 1) := by decide +kernel
theorem d_BT_next_113 : decode b_BT_next 113 = .ok (.iconst 0, 1) := by decide +kernel
theorem d_BT_next_114 : decode b_BT_next 114 = .ok (.istore 4, 2) := by decide +kernel
theorem d_BT_next_116 : decode b_BT_next 116 = .ok (.iinc 5 1, 3) := by decide +kernel
theorem d_BT_next_119 : decode b_BT_next 119 = .ok (.goto (-70), 3) := by decide +kernel
theorem d_BT_next_122 : decode b_BT_next 122 = .ok (.iconst (-1), 1) := by decide +kernel
theorem d_BT_next_123 : decode b_BT_next 123 = .ok (.ireturn, 1) := by decide +kernel
theorem d_BT_rows_0 : decode b_BT_rows 0 = .ok (.aload_n 0, 1) := by decide +kernel
theorem d_BT_rows_1 : decode b_BT_rows 1 = .ok (.aload_n 0, 1) := by decide +kernel
theorem d_BT_rows_2 : decode b_BT_rows 2 = .ok (.iload_n 1, 1) := by decide +kernel
theorem d_BT_rows_3 : decode b_BT_rows 3 = .ok (.invokevirtual 113, 3) := by decide +kernel
theorem d_BT_rows_6 : decode b_BT_rows 6 = .ok (.invokevirtual 50, 3) := by decide +kernel
theorem d_BT_rows_9 : decode b_BT_rows 9 = .ok (.aload_n 0, 1) := by decide +kernel
theorem d_BT_rows_10 : decode b_BT_rows 10 = .ok (.invokevirtual 54, 3) := by decide +kernel
theorem d_BT_rows_13 : decode b_BT_rows 13 = .ok (.aload_n 0, 1) := by decide +kernel
theorem d_BT_rows_14 : decode b_BT_rows 14 = .ok (.getfield 35, 3) := by decide +kernel
theorem d_BT_rows_17 : decode b_BT_rows 17 = .ok (.iload_n 1, 1) := by decide +kernel
theorem d_BT_rows_18 : decode b_BT_rows 18 = .ok (.invokevirtual 116, 3) := by decide +kernel
theorem d_BT_rows_21 : decode b_BT_rows 21 = .ok (.istore_n 2, 1) := by decide +kernel
theorem d_BT_rows_22 : decode b_BT_rows 22 = .ok (.iload_n 2, 1) := by decide +kernel
theorem d_BT_rows_23 : decode b_BT_rows 23 = .ok (.iconst (-1), 1) := by decide +kernel
theorem d_BT_rows_24 : decode b_BT_rows 24 = .ok (.if_icmp .ne 5, 3) := by decide +kernel
theorem d_BT_rows_27 : decode b_BT_rows 27 = .ok (.iconst 0, 1) := by decide +kernel
theorem d_BT_rows_28 : decode b_BT_rows 28 = .ok (.ireturn, 1) := by decide +kernel
theorem d_BT_rows_29 : decode b_BT_rows 29 = .ok (.aload_n 0, 1) := by decide +kernel
theorem d_BT_rows_30 : decode b_BT_rows 30 = .ok (.getfield 21, 3) := by decide +kernel
theorem d_BT_rows_33 : decode b_BT_rows 33 = .ok (.iload_n 2, 1) := by decide +kernel
theorem d_BT_rows_34 : decode b_BT_rows 34 = .ok (.iconst 4, 1) := by decide +kernel
theorem d_BT_rows_35 : decode b_BT_rows 35 = .ok (.invokevirtual 126, 3) := by decide +kernel
theorem d_BT_rows_38 : decode b_BT_rows 38 = .ok (.ifCond .eq 8, 3) := by decide +kernel
theorem d_BT_rows_41 : decode b_BT_rows 41 = .ok (.bipush (-2), 2) := by decide +kernel
theorem d_BT_rows_43 : decode b_BT_rows 43 = .ok (.goto 12, 3) := by decide +kernel
theorem d_BT_rows_46 : decode b_BT_rows 46 = .ok (.aload_n 0, 1) := by decide +kernel
theorem d_BT_rows_47 : decode b_BT_rows 47 = .ok (.getfield 21, 3) := by decide +kernel
theorem d_BT_rows_50 : decode b_BT_rows 50 = .ok (.iload_n 2, 1) := by decide +kernel
theorem d_BT_rows_51 : decode b_BT_rows 51 = .ok (.iconst 1, 1) := by decide +kernel
theorem d_BT_rows_52 : decode b_BT_rows 52 = .ok (.invokevirtual 130, 3) := by decide +kernel
theorem d_BT_rows_55 : decode b_BT_rows 55 = .ok (.ireturn, 1) := by decide +kernel
theorem d_BT_kept_0 : decode b_BT_kept 0 = .ok (.aload_n 0, 1) := by decide +kernel
theorem d_BT_kept_1 : decode b_BT_kept 1 = .ok (.iload_n 1, 1) := by decide +kernel
theorem d_BT_kept_2 : decode b_BT_kept 2 = .ok (.ifCond .lt 7, 3) := by decide +kernel
theorem d_BT_kept_5 : decode b_BT_kept 5 = .ok (.iconst 1, 1) := by decide +kernel
theorem d_BT_kept_6 : decode b_BT_kept 6 = .ok (.goto 4, 3) := by decide +kernel
theorem d_BT_kept_9 : decode b_BT_kept 9 = .ok (.iconst 0, 1) := by decide +kernel
theorem d_BT_kept_10 : decode b_BT_kept 10 = .ok (.invokevirtual 50, 3) := by decide +kernel
theorem d_BT_kept_13 : decode b_BT_kept 13 = .ok (.aload_n 0, 1) := by decide +kernel
theorem d_BT_kept_14 : decode b_BT_kept 14 = .ok (.invokevirtual 54, 3) := by decide +kernel
theorem d_BT_kept_17 : decode b_BT_kept 17 = .ok (.iload_n 1, 1) := by decide +kernel
theorem d_BT_kept_18 : decode b_BT_kept 18 = .ok (.aload_n 0, 1) := by decide +kernel
theorem d_BT_kept_19 : decode b_BT_kept 19 = .ok (.getfield 35, 3) := by decide +kernel
theorem d_BT_kept_22 : decode b_BT_kept 22 = .ok (.invokevirtual 133, 3) := by decide +kernel
theorem d_BT_kept_25 : decode b_BT_kept 25 = .ok (.if_icmp .ge 12, 3) := by decide +kernel
theorem d_BT_kept_28 : decode b_BT_kept 28 = .ok (.aload_n 0, 1) := by decide +kernel
theorem d_BT_kept_29 : decode b_BT_kept 29 = .ok (.getfield 35, 3) := by decide +kernel
theorem d_BT_kept_32 : decode b_BT_kept 32 = .ok (.iload_n 1, 1) := by decide +kernel
theorem d_BT_kept_33 : decode b_BT_kept 33 = .ok (.invokevirtual 134, 3) := by decide +kernel
theorem d_BT_kept_36 : decode b_BT_kept 36 = .ok (.ireturn, 1) := by decide +kernel
theorem d_BT_kept_37 : decode b_BT_kept 37 = .ok (.iload_n 1, 1) := by decide +kernel
theorem d_BT_kept_38 : decode b_BT_kept 38 = .ok (.aload_n 0, 1) := by decide +kernel
theorem d_BT_kept_39 : decode b_BT_kept 39 = .ok (.getfield 35, 3) := by decide +kernel
theorem d_BT_kept_42 : decode b_BT_kept 42 = .ok (.invokevirtual 133, 3) := by decide +kernel
theorem d_BT_kept_45 : decode b_BT_kept 45 = .ok (.if_icmp .ne 15, 3) := by decide +kernel
theorem d_BT_kept_48 : decode b_BT_kept 48 = .ok (.aload_n 0, 1) := by decide +kernel
theorem d_BT_kept_49 : decode b_BT_kept 49 = .ok (.iconst 0, 1) := by decide +kernel
theorem d_BT_kept_50 : decode b_BT_kept 50 = .ok (.invokevirtual 113, 3) := by decide +kernel
theorem d_BT_kept_53 : decode b_BT_kept 53 = .ok (.ifCond .eq 7, 3) := by decide +kernel
theorem d_BT_kept_56 : decode b_BT_kept 56 = .ok (.iconst 0, 1) := by decide +kernel
theorem d_BT_kept_57 : decode b_BT_kept 57 = .ok (.goto 4, 3) := by decide +kernel
theorem d_BT_kept_60 : decode b_BT_kept 60 = .ok (.iconst (-1), 1) := by decide +kernel
theorem d_BT_kept_61 : decode b_BT_kept 61 = .ok (.ireturn, 1) := by decide +kernel
theorem d_BT_crash_0 : decode b_BT_crash 0 = .ok (.aload_n 0, 1) := by decide +kernel
theorem d_BT_crash_1 : decode b_BT_crash 1 = .ok (.iload_n 1, 1) := by decide +kernel
theorem d_BT_crash_2 : decode b_BT_crash 2 = .ok (.iconst (-1), 1) := by decide +kernel
theorem d_BT_crash_3 : decode b_BT_crash 3 = .ok (.if_icmp .lt 13, 3) := by decide +kernel
theorem d_BT_crash_6 : decode b_BT_crash 6 = .ok (.iload_n 1, 1) := by decide +kernel
theorem d_BT_crash_7 : decode b_BT_crash 7 = .ok (.ldc 137, 2) := by decide +kernel
theorem d_BT_crash_9 : decode b_BT_crash 9 = .ok (.if_icmp .gt 7, 3) := by decide +kernel
theorem d_BT_crash_12 : decode b_BT_crash 12 = .ok (.iconst 1, 1) := by decide +kernel
theorem d_BT_crash_13 : decode b_BT_crash 13 = .ok (.goto 4, 3) := by decide +kernel
theorem d_BT_crash_16 : decode b_BT_crash 16 = .ok (.iconst 0, 1) := by decide +kernel
theorem d_BT_crash_17 : decode b_BT_crash 17 = .ok (.invokevirtual 50, 3) := by decide +kernel
theorem d_BT_crash_20 : decode b_BT_crash 20 = .ok (.aload_n 0, 1) := by decide +kernel
theorem d_BT_crash_21 : decode b_BT_crash 21 = .ok (.invokevirtual 54, 3) := by decide +kernel
theorem d_BT_crash_24 : decode b_BT_crash 24 = .ok (.aload_n 0, 1) := by decide +kernel
theorem d_BT_crash_25 : decode b_BT_crash 25 = .ok (.getfield 10, 3) := by decide +kernel
theorem d_BT_crash_28 : decode b_BT_crash 28 = .ok (.iload_n 1, 1) := by decide +kernel
theorem d_BT_crash_29 : decode b_BT_crash 29 = .ok (.invokevirtual 138, 3) := by decide +kernel
theorem d_BT_crash_32 : decode b_BT_crash 32 = .ok (.return_, 1) := by decide +kernel
theorem d_BT_reopen_0 : decode b_BT_reopen 0 = .ok (.aload_n 0, 1) := by decide +kernel
theorem d_BT_reopen_1 : decode b_BT_reopen 1 = .ok (.getfield 10, 3) := by decide +kernel
theorem d_BT_reopen_4 : decode b_BT_reopen 4 = .ok (.invokevirtual 141, 3) := by decide +kernel
theorem d_BT_reopen_7 : decode b_BT_reopen 7 = .ok (.aload_n 0, 1) := by decide +kernel
theorem d_BT_reopen_8 : decode b_BT_reopen 8 = .ok (.getfield 28, 3) := by decide +kernel
theorem d_BT_reopen_11 : decode b_BT_reopen 11 = .ok (.invokevirtual 69, 3) := by decide +kernel
theorem d_BT_reopen_14 : decode b_BT_reopen 14 = .ok (.aload_n 0, 1) := by decide +kernel
theorem d_BT_reopen_15 : decode b_BT_reopen 15 = .ok (.getfield 35, 3) := by decide +kernel
theorem d_BT_reopen_18 : decode b_BT_reopen 18 = .ok (.invokevirtual 144, 3) := by decide +kernel
theorem d_BT_reopen_21 : decode b_BT_reopen 21 = .ok (.aload_n 0, 1) := by decide +kernel
theorem d_BT_reopen_22 : decode b_BT_reopen 22 = .ok (.getfield 21, 3) := by decide +kernel
theorem d_BT_reopen_25 : decode b_BT_reopen 25 = .ok (.invokevirtual 145, 3) := by decide +kernel
theorem d_BT_reopen_28 : decode b_BT_reopen 28 = .ok (.istore_n 1, 1) := by decide +kernel
theorem d_BT_reopen_29 : decode b_BT_reopen 29 = .ok (.iload_n 1, 1) := by decide +kernel
theorem d_BT_reopen_30 : decode b_BT_reopen 30 = .ok (.iconst (-1), 1) := by decide +kernel
theorem d_BT_reopen_31 : decode b_BT_reopen 31 = .ok (.if_icmp .ne 20, 3) := by decide +kernel
theorem d_BT_reopen_34 : decode b_BT_reopen 34 = .ok (.aload_n 0, 1) := by decide +kernel
theorem d_BT_reopen_35 : decode b_BT_reopen 35 = .ok (.getfield 21, 3) := by decide +kernel
theorem d_BT_reopen_38 : decode b_BT_reopen 38 = .ok (.iconst 0, 1) := by decide +kernel
theorem d_BT_reopen_39 : decode b_BT_reopen 39 = .ok (.iconst 0, 1) := by decide +kernel
theorem d_BT_reopen_40 : decode b_BT_reopen 40 = .ok (.invokevirtual 148, 3) := by decide +kernel
theorem d_BT_reopen_43 : decode b_BT_reopen 43 = .ok (.aload_n 0, 1) := by decide +kernel
theorem d_BT_reopen_44 : decode b_BT_reopen 44 = .ok (.getfield 35, 3) := by decide +kernel
theorem d_BT_reopen_47 : decode b_BT_reopen 47 = .ok (.invokevirtual 91, 3) := by decide +kernel
theorem d_BT_reopen_50 : decode b_BT_reopen 50 = .ok (.ireturn, 1) := by decide +kernel
theorem d_BT_reopen_51 : decode b_BT_reopen 51 = .ok (.aload_n 0, 1) := by decide +kernel
theorem d_BT_reopen_52 : decode b_BT_reopen 52 = .ok (.getfield 21, 3) := by decide +kernel
theorem d_BT_reopen_55 : decode b_BT_reopen 55 = .ok (.aload_n 0, 1) := by decide +kernel
theorem d_BT_reopen_56 : decode b_BT_reopen 56 = .ok (.getfield 21, 3) := by decide +kernel
theorem d_BT_reopen_59 : decode b_BT_reopen 59 = .ok (.iload_n 1, 1) := by decide +kernel
theorem d_BT_reopen_60 : decode b_BT_reopen 60 = .ok (.iconst 2, 1) := by decide +kernel
theorem d_BT_reopen_61 : decode b_BT_reopen 61 = .ok (.invokevirtual 130, 3) := by decide +kernel
theorem d_BT_reopen_64 : decode b_BT_reopen 64 = .ok (.aload_n 0, 1) := by decide +kernel
theorem d_BT_reopen_65 : decode b_BT_reopen 65 = .ok (.getfield 21, 3) := by decide +kernel
theorem d_BT_reopen_68 : decode b_BT_reopen 68 = .ok (.iload_n 1, 1) := by decide +kernel
theorem d_BT_reopen_69 : decode b_BT_reopen 69 = .ok (.invokevirtual 151, 3) := by decide +kernel
theorem d_BT_reopen_72 : decode b_BT_reopen 72 = .ok (.iconst 1, 1) := by decide +kernel
theorem d_BT_reopen_73 : decode b_BT_reopen 73 = .ok (.iadd, 1) := by decide +kernel
theorem d_BT_reopen_74 : decode b_BT_reopen 74 = .ok (.invokevirtual 148, 3) := by decide +kernel
theorem d_BT_reopen_77 : decode b_BT_reopen 77 = .ok (.iconst 0, 1) := by decide +kernel
theorem d_BT_reopen_78 : decode b_BT_reopen 78 = .ok (.istore_n 2, 1) := by decide +kernel
theorem d_BT_reopen_79 : decode b_BT_reopen 79 = .ok (.iload_n 2, 1) := by decide +kernel
theorem d_BT_reopen_80 : decode b_BT_reopen 80 = .ok (.aload_n 0, 1) := by decide +kernel
theorem d_BT_reopen_81 : decode b_BT_reopen 81 = .ok (.getfield 21, 3) := by decide +kernel
theorem d_BT_reopen_84 : decode b_BT_reopen 84 = .ok (.invokevirtual 154, 3) := by decide +kernel
theorem d_BT_reopen_87 : decode b_BT_reopen 87 = .ok (.if_icmp .ge 61, 3) := by decide +kernel
theorem d_BT_reopen_90 : decode b_BT_reopen 90 = .ok (.aload_n 0, 1) := by decide +kernel
theorem d_BT_reopen_91 : decode b_BT_reopen 91 = .ok (.getfield 21, 3) := by decide +kernel
theorem d_BT_reopen_94 : decode b_BT_reopen 94 = .ok (.iload_n 2, 1) := by decide +kernel
theorem d_BT_reopen_95 : decode b_BT_reopen 95 = .ok (.invokevirtual 157, 3) := by decide +kernel
theorem d_BT_reopen_98 : decode b_BT_reopen 98 = .ok (.ifCond .eq 44, 3) := by decide +kernel
theorem d_BT_reopen_101 : decode b_BT_reopen 101 = .ok (.aload_n 0, 1) := by decide +kernel
theorem d_BT_reopen_102 : decode b_BT_reopen 102 = .ok (.getfield 21, 3) := by decide +kernel
theorem d_BT_reopen_105 : decode b_BT_reopen 105 = .ok (.aload_n 0, 1) := by decide +kernel
theorem d_BT_reopen_106 : decode b_BT_reopen 106 = .ok (.getfield 21, 3) := by decide +kernel
theorem d_BT_reopen_109 : decode b_BT_reopen 109 = .ok (.iload_n 2, 1) := by decide +kernel
theorem d_BT_reopen_110 : decode b_BT_reopen 110 = .ok (.invokevirtual 151, 3) := by decide +kernel
theorem d_BT_reopen_113 : decode b_BT_reopen 113 = .ok (.invokevirtual 160, 3) := by decide +kernel
theorem d_BT_reopen_116 : decode b_BT_reopen 116 = .ok (.ifCond .eq 26, 3) := by decide +kernel
theorem d_BT_reopen_119 : decode b_BT_reopen 119 = .ok (.aload_n 0, 1) := by decide +kernel
theorem d_BT_reopen_120 : decode b_BT_reopen 120 = .ok (.getfield 35, 3) := by decide +kernel
theorem d_BT_reopen_123 : decode b_BT_reopen 123 = .ok (.aload_n 0, 1) := by decide +kernel
theorem d_BT_reopen_124 : decode b_BT_reopen 124 = .ok (.getfield 21, 3) := by decide +kernel
theorem d_BT_reopen_127 : decode b_BT_reopen 127 = .ok (.iload_n 2, 1) := by decide +kernel
theorem d_BT_reopen_128 : decode b_BT_reopen 128 = .ok (.invokevirtual 163, 3) := by decide +kernel
theorem d_BT_reopen_131 : decode b_BT_reopen 131 = .ok (.aload_n 0, 1) := by decide +kernel
theorem d_BT_reopen_132 : decode b_BT_reopen 132 = .ok (.getfield 21, 3) := by decide +kernel
theorem d_BT_reopen_135 : decode b_BT_reopen 135 = .ok (.iload_n 2, 1) := by decide +kernel
theorem d_BT_reopen_136 : decode b_BT_reopen 136 = .ok (.invokevirtual 151, 3) := by decide +kernel
theorem d_BT_reopen_139 : decode b_BT_reopen 139 = .ok (.invokevirtual 166, 3) := by decide +kernel
theorem d_BT_reopen_142 : decode b_BT_reopen 142 = .ok (.iinc 2 1, 3) := by decide +kernel
theorem d_BT_reopen_145 : decode b_BT_reopen 145 = .ok (.goto (-66), 3) := by decide +kernel
theorem d_BT_reopen_148 : decode b_BT_reopen 148 = .ok (.aload_n 0, 1) := by decide +kernel
theorem d_BT_reopen_149 : decode b_BT_reopen 149 = .ok (.getfield 35, 3) := by decide +kernel
theorem d_BT_reopen_152 : decode b_BT_reopen 152 = .ok (.invokevirtual 91, 3) := by decide +kernel
theorem d_BT_reopen_155 : decode b_BT_reopen 155 = .ok (.ireturn, 1) := by decide +kernel
theorem d_BT_isDown_0 : decode b_BT_isDown 0 = .ok (.aload_n 0, 1) := by decide +kernel
theorem d_BT_isDown_1 : decode b_BT_isDown 1 = .ok (.getfield 10, 3) := by decide +kernel
theorem d_BT_isDown_4 : decode b_BT_isDown 4 = .ok (.invokevirtual 169, 3) := by decide +kernel
theorem d_BT_isDown_7 : decode b_BT_isDown 7 = .ok (.ireturn, 1) := by decide +kernel
theorem d_BT_byteAt_0 : decode b_BT_byteAt 0 = .ok (.aload_n 0, 1) := by decide +kernel
theorem d_BT_byteAt_1 : decode b_BT_byteAt 1 = .ok (.aload_n 0, 1) := by decide +kernel
theorem d_BT_byteAt_2 : decode b_BT_byteAt 2 = .ok (.getfield 21, 3) := by decide +kernel
theorem d_BT_byteAt_5 : decode b_BT_byteAt 5 = .ok (.iload_n 1, 1) := by decide +kernel
theorem d_BT_byteAt_6 : decode b_BT_byteAt 6 = .ok (.invokevirtual 160, 3) := by decide +kernel
theorem d_BT_byteAt_9 : decode b_BT_byteAt 9 = .ok (.ifCond .eq 15, 3) := by decide +kernel
theorem d_BT_byteAt_12 : decode b_BT_byteAt 12 = .ok (.aload_n 0, 1) := by decide +kernel
theorem d_BT_byteAt_13 : decode b_BT_byteAt 13 = .ok (.iload_n 2, 1) := by decide +kernel
theorem d_BT_byteAt_14 : decode b_BT_byteAt 14 = .ok (.invokevirtual 173, 3) := by decide +kernel
theorem d_BT_byteAt_17 : decode b_BT_byteAt 17 = .ok (.ifCond .eq 7, 3) := by decide +kernel
theorem d_BT_byteAt_20 : decode b_BT_byteAt 20 = .ok (.iconst 1, 1) := by decide +kernel
theorem d_BT_byteAt_21 : decode b_BT_byteAt 21 = .ok (.goto 4, 3) := by decide +kernel
theorem d_BT_byteAt_24 : decode b_BT_byteAt 24 = .ok (.iconst 0, 1) := by decide +kernel
theorem d_BT_byteAt_25 : decode b_BT_byteAt 25 = .ok (.invokevirtual 50, 3) := by decide +kernel
theorem d_BT_byteAt_28 : decode b_BT_byteAt 28 = .ok (.aload_n 0, 1) := by decide +kernel
theorem d_BT_byteAt_29 : decode b_BT_byteAt 29 = .ok (.invokevirtual 54, 3) := by decide +kernel
theorem d_BT_byteAt_32 : decode b_BT_byteAt 32 = .ok (.aload_n 0, 1) := by decide +kernel
theorem d_BT_byteAt_33 : decode b_BT_byteAt 33 = .ok (.getfield 21, 3) := by decide +kernel
theorem d_BT_byteAt_36 : decode b_BT_byteAt 36 = .ok (.iload_n 1, 1) := by decide +kernel
theorem d_BT_byteAt_37 : decode b_BT_byteAt 37 = .ok (.iload_n 2, 1) := by decide +kernel
theorem d_BT_byteAt_38 : decode b_BT_byteAt 38 = .ok (.invokevirtual 176, 3) := by decide +kernel
theorem d_BT_byteAt_41 : decode b_BT_byteAt 41 = .ok (.ireturn, 1) := by decide +kernel
theorem d_BT_poke_0 : decode b_BT_poke 0 = .ok (.aload_n 0, 1) := by decide +kernel
theorem d_BT_poke_1 : decode b_BT_poke 1 = .ok (.aload_n 0, 1) := by decide +kernel
theorem d_BT_poke_2 : decode b_BT_poke 2 = .ok (.getfield 21, 3) := by decide +kernel
theorem d_BT_poke_5 : decode b_BT_poke 5 = .ok (.iload_n 1, 1) := by decide +kernel
theorem d_BT_poke_6 : decode b_BT_poke 6 = .ok (.invokevirtual 160, 3) := by decide +kernel
theorem d_BT_poke_9 : decode b_BT_poke 9 = .ok (.ifCond .eq 27, 3) := by decide +kernel
theorem d_BT_poke_12 : decode b_BT_poke 12 = .ok (.aload_n 0, 1) := by decide +kernel
theorem d_BT_poke_13 : decode b_BT_poke 13 = .ok (.iload_n 2, 1) := by decide +kernel
theorem d_BT_poke_14 : decode b_BT_poke 14 = .ok (.invokevirtual 173, 3) := by decide +kernel
theorem d_BT_poke_17 : decode b_BT_poke 17 = .ok (.ifCond .eq 19, 3) := by decide +kernel
theorem d_BT_poke_20 : decode b_BT_poke 20 = .ok (.iload_n 3, 1) := by decide +kernel
theorem d_BT_poke_21 : decode b_BT_poke 21 = .ok (.iconst 1, 1) := by decide +kernel
theorem d_BT_poke_22 : decode b_BT_poke 22 = .ok (.if_icmp .lt 14, 3) := by decide +kernel
theorem d_BT_poke_25 : decode b_BT_poke 25 = .ok (.iload_n 3, 1) := by decide +kernel
theorem d_BT_poke_26 : decode b_BT_poke 26 = .ok (.sipush 255, 3) := by decide +kernel
theorem d_BT_poke_29 : decode b_BT_poke 29 = .ok (.if_icmp .gt 7, 3) := by decide +kernel
theorem d_BT_poke_32 : decode b_BT_poke 32 = .ok (.iconst 1, 1) := by decide +kernel
theorem d_BT_poke_33 : decode b_BT_poke 33 = .ok (.goto 4, 3) := by decide +kernel
theorem d_BT_poke_36 : decode b_BT_poke 36 = .ok (.iconst 0, 1) := by decide +kernel
theorem d_BT_poke_37 : decode b_BT_poke 37 = .ok (.invokevirtual 50, 3) := by decide +kernel
theorem d_BT_poke_40 : decode b_BT_poke 40 = .ok (.aload_n 0, 1) := by decide +kernel
theorem d_BT_poke_41 : decode b_BT_poke 41 = .ok (.invokevirtual 54, 3) := by decide +kernel
theorem d_BT_poke_44 : decode b_BT_poke 44 = .ok (.aload_n 0, 1) := by decide +kernel
theorem d_BT_poke_45 : decode b_BT_poke 45 = .ok (.getfield 21, 3) := by decide +kernel
theorem d_BT_poke_48 : decode b_BT_poke 48 = .ok (.iload_n 1, 1) := by decide +kernel
theorem d_BT_poke_49 : decode b_BT_poke 49 = .ok (.iload_n 2, 1) := by decide +kernel
theorem d_BT_poke_50 : decode b_BT_poke 50 = .ok (.iload_n 3, 1) := by decide +kernel
theorem d_BT_poke_51 : decode b_BT_poke 51 = .ok (.invokevirtual 179, 3) := by decide +kernel
theorem d_BT_poke_54 : decode b_BT_poke 54 = .ok (.aload_n 0, 1) := by decide +kernel
theorem d_BT_poke_55 : decode b_BT_poke 55 = .ok (.getfield 21, 3) := by decide +kernel
theorem d_BT_poke_58 : decode b_BT_poke 58 = .ok (.iload_n 1, 1) := by decide +kernel
theorem d_BT_poke_59 : decode b_BT_poke 59 = .ok (.iload_n 2, 1) := by decide +kernel
theorem d_BT_poke_60 : decode b_BT_poke 60 = .ok (.invokevirtual 176, 3) := by decide +kernel
theorem d_BT_poke_63 : decode b_BT_poke 63 = .ok (.ireturn, 1) := by decide +kernel
theorem d_BT_badAt_0 : decode b_BT_badAt 0 = .ok (.aload_n 0, 1) := by decide +kernel
theorem d_BT_badAt_1 : decode b_BT_badAt 1 = .ok (.iload_n 1, 1) := by decide +kernel
theorem d_BT_badAt_2 : decode b_BT_badAt 2 = .ok (.ifCond .lt 7, 3) := by decide +kernel
theorem d_BT_badAt_5 : decode b_BT_badAt 5 = .ok (.iconst 1, 1) := by decide +kernel
theorem d_BT_badAt_6 : decode b_BT_badAt 6 = .ok (.goto 4, 3) := by decide +kernel
theorem d_BT_badAt_9 : decode b_BT_badAt 9 = .ok (.iconst 0, 1) := by decide +kernel
theorem d_BT_badAt_10 : decode b_BT_badAt 10 = .ok (.invokevirtual 50, 3) := by decide +kernel
theorem d_BT_badAt_13 : decode b_BT_badAt 13 = .ok (.aload_n 0, 1) := by decide +kernel
theorem d_BT_badAt_14 : decode b_BT_badAt 14 = .ok (.invokevirtual 54, 3) := by decide +kernel
theorem d_BT_badAt_17 : decode b_BT_badAt 17 = .ok (.iconst 0, 1) := by decide +kernel
theorem d_BT_badAt_18 : decode b_BT_badAt 18 = .ok (.istore_n 2, 1) := by decide +kernel
theorem d_BT_badAt_19 : decode b_BT_badAt 19 = .ok (.aload_n 0, 1) := by decide +kernel
theorem d_BT_badAt_20 : decode b_BT_badAt 20 = .ok (.getfield 21, 3) := by decide +kernel
theorem d_BT_badAt_23 : decode b_BT_badAt 23 = .ok (.invokevirtual 183, 3) := by decide +kernel
theorem d_BT_badAt_26 : decode b_BT_badAt 26 = .ok (.istore_n 3, 1) := by decide +kernel
theorem d_BT_badAt_27 : decode b_BT_badAt 27 = .ok (.iload_n 3, 1) := by decide +kernel
theorem d_BT_badAt_28 : decode b_BT_badAt 28 = .ok (.aload_n 0, 1) := by decide +kernel
theorem d_BT_badAt_29 : decode b_BT_badAt 29 = .ok (.getfield 21, 3) := by decide +kernel
theorem d_BT_badAt_32 : decode b_BT_badAt 32 = .ok (.invokevirtual 186, 3) := by decide +kernel
theorem d_BT_badAt_35 : decode b_BT_badAt 35 = .ok (.if_icmp .ge 30, 3) := by decide +kernel
theorem d_BT_badAt_38 : decode b_BT_badAt 38 = .ok (.aload_n 0, 1) := by decide +kernel
theorem d_BT_badAt_39 : decode b_BT_badAt 39 = .ok (.getfield 21, 3) := by decide +kernel
theorem d_BT_badAt_42 : decode b_BT_badAt 42 = .ok (.iload_n 3, 1) := by decide +kernel
theorem d_BT_badAt_43 : decode b_BT_badAt 43 = .ok (.invokevirtual 189, 3) := by decide +kernel
theorem d_BT_badAt_46 : decode b_BT_badAt 46 = .ok (.ifCond .ne 13, 3) := by decide +kernel
theorem d_BT_badAt_49 : decode b_BT_badAt 49 = .ok (.iload_n 2, 1) := by decide +kernel
theorem d_BT_badAt_50 : decode b_BT_badAt 50 = .ok (.iload_n 1, 1) := by decide +kernel
theorem d_BT_badAt_51 : decode b_BT_badAt 51 = .ok (.if_icmp .ne 5, 3) := by decide +kernel
theorem d_BT_badAt_54 : decode b_BT_badAt 54 = .ok (.iload_n 3, 1) := by decide +kernel
theorem d_BT_badAt_55 : decode b_BT_badAt 55 = .ok (.ireturn, 1) := by decide +kernel
theorem d_BT_badAt_56 : decode b_BT_badAt 56 = .ok (.iinc 2 1, 3) := by decide +kernel
theorem d_BT_badAt_59 : decode b_BT_badAt 59 = .ok (.iinc 3 1, 3) := by decide +kernel
theorem d_BT_badAt_62 : decode b_BT_badAt 62 = .ok (.goto (-35), 3) := by decide +kernel
theorem d_BT_badAt_65 : decode b_BT_badAt 65 = .ok (.iconst (-1), 1) := by decide +kernel
theorem d_BT_badAt_66 : decode b_BT_badAt 66 = .ok (.ireturn, 1) := by decide +kernel
theorem d_BT_told_0 : decode b_BT_told 0 = .ok (.aload_n 0, 1) := by decide +kernel
theorem d_BT_told_1 : decode b_BT_told 1 = .ok (.iload_n 1, 1) := by decide +kernel
theorem d_BT_told_2 : decode b_BT_told 2 = .ok (.ifCond .lt 12, 3) := by decide +kernel
theorem d_BT_told_5 : decode b_BT_told 5 = .ok (.iload_n 1, 1) := by decide +kernel
theorem d_BT_told_6 : decode b_BT_told 6 = .ok (.iconst 4, 1) := by decide +kernel
theorem d_BT_told_7 : decode b_BT_told 7 = .ok (.if_icmp .gt 7, 3) := by decide +kernel
theorem d_BT_told_10 : decode b_BT_told 10 = .ok (.iconst 1, 1) := by decide +kernel
theorem d_BT_told_11 : decode b_BT_told 11 = .ok (.goto 4, 3) := by decide +kernel
theorem d_BT_told_14 : decode b_BT_told 14 = .ok (.iconst 0, 1) := by decide +kernel
theorem d_BT_told_15 : decode b_BT_told 15 = .ok (.invokevirtual 50, 3) := by decide +kernel
theorem d_BT_told_18 : decode b_BT_told 18 = .ok (.aload_n 0, 1) := by decide +kernel
theorem d_BT_told_19 : decode b_BT_told 19 = .ok (.invokevirtual 54, 3) := by decide +kernel
theorem d_BT_told_22 : decode b_BT_told 22 = .ok (.iload_n 1, 1) := by decide +kernel
theorem d_BT_told_23 : decode b_BT_told 23 = .ok (.tableswitch 61 0 3 #[29, 37, 45, 53], 29) := by decide +kernel
theorem d_BT_told_52 : decode b_BT_told 52 = .ok (.aload_n 0, 1) := by decide +kernel
theorem d_BT_told_53 : decode b_BT_told 53 = .ok (.getfield 21, 3) := by decide +kernel
theorem d_BT_told_56 : decode b_BT_told 56 = .ok (.invokevirtual 183, 3) := by decide +kernel
theorem d_BT_told_59 : decode b_BT_told 59 = .ok (.ireturn, 1) := by decide +kernel
theorem d_BT_told_60 : decode b_BT_told 60 = .ok (.aload_n 0, 1) := by decide +kernel
theorem d_BT_told_61 : decode b_BT_told 61 = .ok (.getfield 21, 3) := by decide +kernel
theorem d_BT_told_64 : decode b_BT_told 64 = .ok (.invokevirtual 186, 3) := by decide +kernel
theorem d_BT_told_67 : decode b_BT_told 67 = .ok (.ireturn, 1) := by decide +kernel
theorem d_BT_told_68 : decode b_BT_told 68 = .ok (.aload_n 0, 1) := by decide +kernel
theorem d_BT_told_69 : decode b_BT_told 69 = .ok (.getfield 35, 3) := by decide +kernel
theorem d_BT_told_72 : decode b_BT_told 72 = .ok (.invokevirtual 91, 3) := by decide +kernel
theorem d_BT_told_75 : decode b_BT_told 75 = .ok (.ireturn, 1) := by decide +kernel
theorem d_BT_told_76 : decode b_BT_told 76 = .ok (.aload_n 0, 1) := by decide +kernel
theorem d_BT_told_77 : decode b_BT_told 77 = .ok (.getfield 10, 3) := by decide +kernel
theorem d_BT_told_80 : decode b_BT_told 80 = .ok (.invokevirtual 192, 3) := by decide +kernel
theorem d_BT_told_83 : decode b_BT_told 83 = .ok (.ireturn, 1) := by decide +kernel
theorem d_BT_told_84 : decode b_BT_told 84 = .ok (.aload_n 0, 1) := by decide +kernel
theorem d_BT_told_85 : decode b_BT_told 85 = .ok (.getfield 28, 3) := by decide +kernel
theorem d_BT_told_88 : decode b_BT_told 88 = .ok (.invokevirtual 61, 3) := by decide +kernel
theorem d_BT_told_91 : decode b_BT_told 91 = .ok (.ireturn, 1) := by decide +kernel
theorem d_BT_requireArgument_0 : decode b_BT_requireArgument 0 = .ok (.iload_n 1, 1) := by decide +kernel
theorem d_BT_requireArgument_1 : decode b_BT_requireArgument 1 = .ok (.ifCond .ne 13, 3) := by decide +kernel
theorem d_BT_requireArgument_4 : decode b_BT_requireArgument 4 = .ok (.new 195, 3) := by decide +kernel
theorem d_BT_requireArgument_7 : decode b_BT_requireArgument 7 = .ok (.dup, 1) := by decide +kernel
theorem d_BT_requireArgument_8 : decode b_BT_requireArgument 8 = .ok (.ldc 197, 2) := by decide +kernel
theorem d_BT_requireArgument_10 : decode b_BT_requireArgument 10 = .ok (.invokespecial 199, 3) := by decide +kernel
theorem d_BT_requireArgument_13 : decode b_BT_requireArgument 13 = .ok (.athrow, 1) := by decide +kernel
theorem d_BT_requireArgument_14 : decode b_BT_requireArgument 14 = .ok (.return_, 1) := by decide +kernel
theorem d_BT_requirePower_0 : decode b_BT_requirePower 0 = .ok (.aload_n 0, 1) := by decide +kernel
theorem d_BT_requirePower_1 : decode b_BT_requirePower 1 = .ok (.getfield 10, 3) := by decide +kernel
theorem d_BT_requirePower_4 : decode b_BT_requirePower 4 = .ok (.invokevirtual 169, 3) := by decide +kernel
theorem d_BT_requirePower_7 : decode b_BT_requirePower 7 = .ok (.ifCond .eq 13, 3) := by decide +kernel
theorem d_BT_requirePower_10 : decode b_BT_requirePower 10 = .ok (.new 202, 3) := by decide +kernel
theorem d_BT_requirePower_13 : decode b_BT_requirePower 13 = .ok (.dup, 1) := by decide +kernel
theorem d_BT_requirePower_14 : decode b_BT_requirePower 14 = .ok (.ldc 204, 2) := by decide +kernel
theorem d_BT_requirePower_16 : decode b_BT_requirePower 16 = .ok (.invokespecial 206, 3) := by decide +kernel
theorem d_BT_requirePower_19 : decode b_BT_requirePower 19 = .ok (.athrow, 1) := by decide +kernel
theorem d_BT_requirePower_20 : decode b_BT_requirePower 20 = .ok (.return_, 1) := by decide +kernel
theorem d_BT_isKey_0 : decode b_BT_isKey 0 = .ok (.iload_n 1, 1) := by decide +kernel
theorem d_BT_isKey_1 : decode b_BT_isKey 1 = .ok (.ifCond .lt 14, 3) := by decide +kernel
theorem d_BT_isKey_4 : decode b_BT_isKey 4 = .ok (.iload_n 1, 1) := by decide +kernel
theorem d_BT_isKey_5 : decode b_BT_isKey 5 = .ok (.sipush 512, 3) := by decide +kernel
theorem d_BT_isKey_8 : decode b_BT_isKey 8 = .ok (.if_icmp .ge 7, 3) := by decide +kernel
theorem d_BT_isKey_11 : decode b_BT_isKey 11 = .ok (.iconst 1, 1) := by decide +kernel
theorem d_BT_isKey_12 : decode b_BT_isKey 12 = .ok (.goto 4, 3) := by decide +kernel
theorem d_BT_isKey_15 : decode b_BT_isKey 15 = .ok (.iconst 0, 1) := by decide +kernel
theorem d_BT_isKey_16 : decode b_BT_isKey 16 = .ok (.ireturn, 1) := by decide +kernel
theorem d_BT_isByteIndex_0 : decode b_BT_isByteIndex 0 = .ok (.iload_n 1, 1) := by decide +kernel
theorem d_BT_isByteIndex_1 : decode b_BT_isByteIndex 1 = .ok (.ifCond .lt 13, 3) := by decide +kernel
theorem d_BT_isByteIndex_4 : decode b_BT_isByteIndex 4 = .ok (.iload_n 1, 1) := by decide +kernel
theorem d_BT_isByteIndex_5 : decode b_BT_isByteIndex 5 = .ok (.bipush 64, 2) := by decide +kernel
theorem d_BT_isByteIndex_7 : decode b_BT_isByteIndex 7 = .ok (.if_icmp .ge 7, 3) := by decide +kernel
theorem d_BT_isByteIndex_10 : decode b_BT_isByteIndex 10 = .ok (.iconst 1, 1) := by decide +kernel
theorem d_BT_isByteIndex_11 : decode b_BT_isByteIndex 11 = .ok (.goto 4, 3) := by decide +kernel
theorem d_BT_isByteIndex_14 : decode b_BT_isByteIndex 14 = .ok (.iconst 0, 1) := by decide +kernel
theorem d_BT_isByteIndex_15 : decode b_BT_isByteIndex 15 = .ok (.ireturn, 1) := by decide +kernel
theorem d_BT_isKept_0 : decode b_BT_isKept 0 = .ok (.iload_n 1, 1) := by decide +kernel
theorem d_BT_isKept_1 : decode b_BT_isKept 1 = .ok (.ifCond .ne 21, 3) := by decide +kernel
theorem d_BT_isKept_4 : decode b_BT_isKept 4 = .ok (.aload_n 0, 1) := by decide +kernel
theorem d_BT_isKept_5 : decode b_BT_isKept 5 = .ok (.getfield 21, 3) := by decide +kernel
theorem d_BT_isKept_8 : decode b_BT_isKept 8 = .ok (.invokevirtual 183, 3) := by decide +kernel
theorem d_BT_isKept_11 : decode b_BT_isKept 11 = .ok (.ifCond .ne 7, 3) := by decide +kernel
theorem d_BT_isKept_14 : decode b_BT_isKept 14 = .ok (.iconst 1, 1) := by decide +kernel
theorem d_BT_isKept_15 : decode b_BT_isKept 15 = .ok (.goto 24, 3) := by decide +kernel
theorem d_BT_isKept_18 : decode b_BT_isKept 18 = .ok (.iconst 0, 1) := by decide +kernel
theorem d_BT_isKept_19 : decode b_BT_isKept 19 = .ok (.goto 20, 3) := by decide +kernel
theorem d_BT_isKept_22 : decode b_BT_isKept 22 = .ok (.aload_n 0, 1) := by decide +kernel
theorem d_BT_isKept_23 : decode b_BT_isKept 23 = .ok (.getfield 35, 3) := by decide +kernel
theorem d_BT_isKept_26 : decode b_BT_isKept 26 = .ok (.iload_n 1, 1) := by decide +kernel
theorem d_BT_isKept_27 : decode b_BT_isKept 27 = .ok (.invokevirtual 116, 3) := by decide +kernel
theorem d_BT_isKept_30 : decode b_BT_isKept 30 = .ok (.iconst (-1), 1) := by decide +kernel
theorem d_BT_isKept_31 : decode b_BT_isKept 31 = .ok (.if_icmp .eq 7, 3) := by decide +kernel
theorem d_BT_isKept_34 : decode b_BT_isKept 34 = .ok (.iconst 1, 1) := by decide +kernel
theorem d_BT_isKept_35 : decode b_BT_isKept 35 = .ok (.goto 4, 3) := by decide +kernel
theorem d_BT_isKept_38 : decode b_BT_isKept 38 = .ok (.iconst 0, 1) := by decide +kernel
theorem d_BT_isKept_39 : decode b_BT_isKept 39 = .ok (.ireturn, 1) := by decide +kernel
theorem d_BT_rowOf_0 : decode b_BT_rowOf 0 = .ok (.aload_n 0, 1) := by decide +kernel
theorem d_BT_rowOf_1 : decode b_BT_rowOf 1 = .ok (.iload_n 1, 1) := by decide +kernel
theorem d_BT_rowOf_2 : decode b_BT_rowOf 2 = .ok (.iload_n 2, 1) := by decide +kernel
theorem d_BT_rowOf_3 : decode b_BT_rowOf 3 = .ok (.iconst 3, 1) := by decide +kernel
theorem d_BT_rowOf_4 : decode b_BT_rowOf 4 = .ok (.ishr, 1) := by decide +kernel
theorem d_BT_rowOf_5 : decode b_BT_rowOf 5 = .ok (.invokevirtual 119, 3) := by decide +kernel
theorem d_BT_rowOf_8 : decode b_BT_rowOf 8 = .ok (.istore_n 3, 1) := by decide +kernel
theorem d_BT_rowOf_9 : decode b_BT_rowOf 9 = .ok (.iload_n 3, 1) := by decide +kernel
theorem d_BT_rowOf_10 : decode b_BT_rowOf 10 = .ok (.bipush (-2), 2) := by decide +kernel
theorem d_BT_rowOf_12 : decode b_BT_rowOf 12 = .ok (.if_icmp .ne 7, 3) := by decide +kernel
theorem d_BT_rowOf_15 : decode b_BT_rowOf 15 = .ok (.ldc2_w 207, 3) := by decide +kernel
theorem d_BT_rowOf_18 : decode b_BT_rowOf 18 = .ok (.lreturn, 1) := by decide +kernel
theorem d_BT_rowOf_19 : decode b_BT_rowOf 19 = .ok (.iload_n 3, 1) := by decide +kernel
theorem d_BT_rowOf_20 : decode b_BT_rowOf 20 = .ok (.iconst (-1), 1) := by decide +kernel
theorem d_BT_rowOf_21 : decode b_BT_rowOf 21 = .ok (.if_icmp .eq 18, 3) := by decide +kernel
theorem d_BT_rowOf_24 : decode b_BT_rowOf 24 = .ok (.aload_n 0, 1) := by decide +kernel
theorem d_BT_rowOf_25 : decode b_BT_rowOf 25 = .ok (.getfield 21, 3) := by decide +kernel
theorem d_BT_rowOf_28 : decode b_BT_rowOf 28 = .ok (.iload_n 3, 1) := by decide +kernel
theorem d_BT_rowOf_29 : decode b_BT_rowOf 29 = .ok (.iload_n 2, 1) := by decide +kernel
theorem d_BT_rowOf_30 : decode b_BT_rowOf 30 = .ok (.bipush 7, 2) := by decide +kernel
theorem d_BT_rowOf_32 : decode b_BT_rowOf 32 = .ok (.iand, 1) := by decide +kernel
theorem d_BT_rowOf_33 : decode b_BT_rowOf 33 = .ok (.invokevirtual 209, 3) := by decide +kernel
theorem d_BT_rowOf_36 : decode b_BT_rowOf 36 = .ok (.ifCond .ne 7, 3) := by decide +kernel
theorem d_BT_rowOf_39 : decode b_BT_rowOf 39 = .ok (.ldc2_w 75, 3) := by decide +kernel
theorem d_BT_rowOf_42 : decode b_BT_rowOf 42 = .ok (.lreturn, 1) := by decide +kernel
theorem d_BT_rowOf_43 : decode b_BT_rowOf 43 = .ok (.aload_n 0, 1) := by decide +kernel
theorem d_BT_rowOf_44 : decode b_BT_rowOf 44 = .ok (.getfield 21, 3) := by decide +kernel
theorem d_BT_rowOf_47 : decode b_BT_rowOf 47 = .ok (.iload_n 3, 1) := by decide +kernel
theorem d_BT_rowOf_48 : decode b_BT_rowOf 48 = .ok (.iload_n 2, 1) := by decide +kernel
theorem d_BT_rowOf_49 : decode b_BT_rowOf 49 = .ok (.bipush 7, 2) := by decide +kernel
theorem d_BT_rowOf_51 : decode b_BT_rowOf 51 = .ok (.iand, 1) := by decide +kernel
theorem d_BT_rowOf_52 : decode b_BT_rowOf 52 = .ok (.invokevirtual 130, 3) := by decide +kernel
theorem d_BT_rowOf_55 : decode b_BT_rowOf 55 = .ok (.i2l, 1) := by decide +kernel
theorem d_BT_rowOf_56 : decode b_BT_rowOf 56 = .ok (.lreturn, 1) := by decide +kernel
theorem d_BT_leafBlock_0 : decode b_BT_leafBlock 0 = .ok (.iload_n 1, 1) := by decide +kernel
theorem d_BT_leafBlock_1 : decode b_BT_leafBlock 1 = .ok (.iconst (-1), 1) := by decide +kernel
theorem d_BT_leafBlock_2 : decode b_BT_leafBlock 2 = .ok (.if_icmp .ne 5, 3) := by decide +kernel
theorem d_BT_leafBlock_5 : decode b_BT_leafBlock 5 = .ok (.iconst (-1), 1) := by decide +kernel
theorem d_BT_leafBlock_6 : decode b_BT_leafBlock 6 = .ok (.ireturn, 1) := by decide +kernel
theorem d_BT_leafBlock_7 : decode b_BT_leafBlock 7 = .ok (.aload_n 0, 1) := by decide +kernel
theorem d_BT_leafBlock_8 : decode b_BT_leafBlock 8 = .ok (.getfield 21, 3) := by decide +kernel
theorem d_BT_leafBlock_11 : decode b_BT_leafBlock 11 = .ok (.iload_n 1, 1) := by decide +kernel
theorem d_BT_leafBlock_12 : decode b_BT_leafBlock 12 = .ok (.iconst 4, 1) := by decide +kernel
theorem d_BT_leafBlock_13 : decode b_BT_leafBlock 13 = .ok (.invokevirtual 126, 3) := by decide +kernel
theorem d_BT_leafBlock_16 : decode b_BT_leafBlock 16 = .ok (.ifCond .eq 6, 3) := by decide +kernel
theorem d_BT_leafBlock_19 : decode b_BT_leafBlock 19 = .ok (.bipush (-2), 2) := by decide +kernel
theorem d_BT_leafBlock_21 : decode b_BT_leafBlock 21 = .ok (.ireturn, 1) := by decide +kernel
theorem d_BT_leafBlock_22 : decode b_BT_leafBlock 22 = .ok (.aload_n 0, 1) := by decide +kernel
theorem d_BT_leafBlock_23 : decode b_BT_leafBlock 23 = .ok (.iload_n 1, 1) := by decide +kernel
theorem d_BT_leafBlock_24 : decode b_BT_leafBlock 24 = .ok (.iconst 0, 1) := by decide +kernel
theorem d_BT_leafBlock_25 : decode b_BT_leafBlock 25 = .ok (.iconst 3, 1) := by decide +kernel
theorem d_BT_leafBlock_26 : decode b_BT_leafBlock 26 = .ok (.invokevirtual 212, 3) := by decide +kernel
theorem d_BT_leafBlock_29 : decode b_BT_leafBlock 29 = .ok (.istore_n 3, 1) := by decide +kernel
theorem d_BT_leafBlock_30 : decode b_BT_leafBlock 30 = .ok (.aload_n 0, 1) := by decide +kernel
theorem d_BT_leafBlock_31 : decode b_BT_leafBlock 31 = .ok (.iload_n 3, 1) := by decide +kernel
theorem d_BT_leafBlock_32 : decode b_BT_leafBlock 32 = .ok (.iload_n 2, 1) := by decide +kernel
theorem d_BT_leafBlock_33 : decode b_BT_leafBlock 33 = .ok (.iconst 3, 1) := by decide +kernel
theorem d_BT_leafBlock_34 : decode b_BT_leafBlock 34 = .ok (.ishr, 1) := by decide +kernel
theorem d_BT_leafBlock_35 : decode b_BT_leafBlock 35 = .ok (.iconst 2, 1) := by decide +kernel
theorem d_BT_leafBlock_36 : decode b_BT_leafBlock 36 = .ok (.invokevirtual 212, 3) := by decide +kernel
theorem d_BT_leafBlock_39 : decode b_BT_leafBlock 39 = .ok (.istore 4, 2) := by decide +kernel
theorem d_BT_leafBlock_41 : decode b_BT_leafBlock 41 = .ok (.aload_n 0, 1) := by decide +kernel
theorem d_BT_leafBlock_42 : decode b_BT_leafBlock 42 = .ok (.iload 4, 2) := by decide +kernel
theorem d_BT_leafBlock_44 : decode b_BT_leafBlock 44 = .ok (.iload_n 2, 1) := by decide +kernel
theorem d_BT_leafBlock_45 : decode b_BT_leafBlock 45 = .ok (.bipush 7, 2) := by decide +kernel
theorem d_BT_leafBlock_47 : decode b_BT_leafBlock 47 = .ok (.iand, 1) := by decide +kernel
theorem d_BT_leafBlock_48 : decode b_BT_leafBlock 48 = .ok (.iconst 1, 1) := by decide +kernel
theorem d_BT_leafBlock_49 : decode b_BT_leafBlock 49 = .ok (.invokevirtual 212, 3) := by decide +kernel
theorem d_BT_leafBlock_52 : decode b_BT_leafBlock 52 = .ok (.ireturn, 1) := by decide +kernel
theorem d_BT_childBlock_0 : decode b_BT_childBlock 0 = .ok (.iload_n 1, 1) := by decide +kernel
theorem d_BT_childBlock_1 : decode b_BT_childBlock 1 = .ok (.iconst (-1), 1) := by decide +kernel
theorem d_BT_childBlock_2 : decode b_BT_childBlock 2 = .ok (.if_icmp .eq 9, 3) := by decide +kernel
theorem d_BT_childBlock_5 : decode b_BT_childBlock 5 = .ok (.iload_n 1, 1) := by decide +kernel
theorem d_BT_childBlock_6 : decode b_BT_childBlock 6 = .ok (.bipush (-2), 2) := by decide +kernel
theorem d_BT_childBlock_8 : decode b_BT_childBlock 8 = .ok (.if_icmp .ne 5, 3) := by decide +kernel
theorem d_BT_childBlock_11 : decode b_BT_childBlock 11 = .ok (.iload_n 1, 1) := by decide +kernel
theorem d_BT_childBlock_12 : decode b_BT_childBlock 12 = .ok (.ireturn, 1) := by decide +kernel
theorem d_BT_childBlock_13 : decode b_BT_childBlock 13 = .ok (.aload_n 0, 1) := by decide +kernel
theorem d_BT_childBlock_14 : decode b_BT_childBlock 14 = .ok (.getfield 21, 3) := by decide +kernel
theorem d_BT_childBlock_17 : decode b_BT_childBlock 17 = .ok (.iload_n 1, 1) := by decide +kernel
theorem d_BT_childBlock_18 : decode b_BT_childBlock 18 = .ok (.iload_n 2, 1) := by decide +kernel
theorem d_BT_childBlock_19 : decode b_BT_childBlock 19 = .ok (.invokevirtual 209, 3) := by decide +kernel
theorem d_BT_childBlock_22 : decode b_BT_childBlock 22 = .ok (.ifCond .ne 5, 3) := by decide +kernel
theorem d_BT_childBlock_25 : decode b_BT_childBlock 25 = .ok (.iconst (-1), 1) := by decide +kernel
theorem d_BT_childBlock_26 : decode b_BT_childBlock 26 = .ok (.ireturn, 1) := by decide +kernel
theorem d_BT_childBlock_27 : decode b_BT_childBlock 27 = .ok (.aload_n 0, 1) := by decide +kernel
theorem d_BT_childBlock_28 : decode b_BT_childBlock 28 = .ok (.getfield 21, 3) := by decide +kernel
theorem d_BT_childBlock_31 : decode b_BT_childBlock 31 = .ok (.iload_n 1, 1) := by decide +kernel
theorem d_BT_childBlock_32 : decode b_BT_childBlock 32 = .ok (.iload_n 2, 1) := by decide +kernel
theorem d_BT_childBlock_33 : decode b_BT_childBlock 33 = .ok (.invokevirtual 130, 3) := by decide +kernel
theorem d_BT_childBlock_36 : decode b_BT_childBlock 36 = .ok (.istore 4, 2) := by decide +kernel
theorem d_BT_childBlock_38 : decode b_BT_childBlock 38 = .ok (.aload_n 0, 1) := by decide +kernel
theorem d_BT_childBlock_39 : decode b_BT_childBlock 39 = .ok (.getfield 21, 3) := by decide +kernel
theorem d_BT_childBlock_42 : decode b_BT_childBlock 42 = .ok (.iload 4, 2) := by decide +kernel
theorem d_BT_childBlock_44 : decode b_BT_childBlock 44 = .ok (.iload_n 3, 1) := by decide +kernel
theorem d_BT_childBlock_45 : decode b_BT_childBlock 45 = .ok (.invokevirtual 126, 3) := by decide +kernel
theorem d_BT_childBlock_48 : decode b_BT_childBlock 48 = .ok (.ifCond .eq 8, 3) := by decide +kernel
theorem d_BT_childBlock_51 : decode b_BT_childBlock 51 = .ok (.bipush (-2), 2) := by decide +kernel
theorem d_BT_childBlock_53 : decode b_BT_childBlock 53 = .ok (.goto 5, 3) := by decide +kernel
theorem d_BT_childBlock_56 : decode b_BT_childBlock 56 = .ok (.iload 4, 2) := by decide +kernel
theorem d_BT_childBlock_58 : decode b_BT_childBlock 58 = .ok (.ireturn, 1) := by decide +kernel
theorem d_BT_appendVersion_0 : decode b_BT_appendVersion 0 = .ok (.aload_n 0, 1) := by decide +kernel
theorem d_BT_appendVersion_1 : decode b_BT_appendVersion 1 = .ok (.getfield 21, 3) := by decide +kernel
theorem d_BT_appendVersion_4 : decode b_BT_appendVersion 4 = .ok (.invokevirtual 186, 3) := by decide +kernel
theorem d_BT_appendVersion_7 : decode b_BT_appendVersion 7 = .ok (.istore_n 2, 1) := by decide +kernel
theorem d_BT_appendVersion_8 : decode b_BT_appendVersion 8 = .ok (.aload_n 0, 1) := by decide +kernel
theorem d_BT_appendVersion_9 : decode b_BT_appendVersion 9 = .ok (.getfield 42, 3) := by decide +kernel
theorem d_BT_appendVersion_12 : decode b_BT_appendVersion 12 = .ok (.iload_n 2, 1) := by decide +kernel
theorem d_BT_appendVersion_13 : decode b_BT_appendVersion 13 = .ok (.invokevirtual 216, 3) := by decide +kernel
theorem d_BT_appendVersion_16 : decode b_BT_appendVersion 16 = .ok (.istore_n 3, 1) := by decide +kernel
theorem d_BT_appendVersion_17 : decode b_BT_appendVersion 17 = .ok (.aload_n 0, 1) := by decide +kernel
theorem d_BT_appendVersion_18 : decode b_BT_appendVersion 18 = .ok (.getfield 21, 3) := by decide +kernel
theorem d_BT_appendVersion_21 : decode b_BT_appendVersion 21 = .ok (.iload_n 3, 1) := by decide +kernel
theorem d_BT_appendVersion_22 : decode b_BT_appendVersion 22 = .ok (.iconst 1, 1) := by decide +kernel
theorem d_BT_appendVersion_23 : decode b_BT_appendVersion 23 = .ok (.iadd, 1) := by decide +kernel
theorem d_BT_appendVersion_24 : decode b_BT_appendVersion 24 = .ok (.iload_n 2, 1) := by decide +kernel
theorem d_BT_appendVersion_25 : decode b_BT_appendVersion 25 = .ok (.isub, 1) := by decide +kernel
theorem d_BT_appendVersion_26 : decode b_BT_appendVersion 26 = .ok (.invokevirtual 219, 3) := by decide +kernel
theorem d_BT_appendVersion_29 : decode b_BT_appendVersion 29 = .ok (.ifCond .ne 6, 3) := by decide +kernel
theorem d_BT_appendVersion_32 : decode b_BT_appendVersion 32 = .ok (.bipush (-3), 2) := by decide +kernel
theorem d_BT_appendVersion_34 : decode b_BT_appendVersion 34 = .ok (.ireturn, 1) := by decide +kernel
theorem d_BT_appendVersion_35 : decode b_BT_appendVersion 35 = .ok (.aload_n 0, 1) := by decide +kernel
theorem d_BT_appendVersion_36 : decode b_BT_appendVersion 36 = .ok (.getfield 35, 3) := by decide +kernel
theorem d_BT_appendVersion_39 : decode b_BT_appendVersion 39 = .ok (.invokevirtual 91, 3) := by decide +kernel
theorem d_BT_appendVersion_42 : decode b_BT_appendVersion 42 = .ok (.iconst 1, 1) := by decide +kernel
theorem d_BT_appendVersion_43 : decode b_BT_appendVersion 43 = .ok (.iadd, 1) := by decide +kernel
theorem d_BT_appendVersion_44 : decode b_BT_appendVersion 44 = .ok (.istore 4, 2) := by decide +kernel
theorem d_BT_appendVersion_46 : decode b_BT_appendVersion 46 = .ok (.iload_n 1, 1) := by decide +kernel
theorem d_BT_appendVersion_47 : decode b_BT_appendVersion 47 = .ok (.ifCond .eq 7, 3) := by decide +kernel
theorem d_BT_appendVersion_50 : decode b_BT_appendVersion 50 = .ok (.iload_n 2, 1) := by decide +kernel
theorem d_BT_appendVersion_51 : decode b_BT_appendVersion 51 = .ok (.goto 10, 3) := by decide +kernel
theorem d_BT_appendVersion_54 : decode b_BT_appendVersion 54 = .ok (.aload_n 0, 1) := by decide +kernel
theorem d_BT_appendVersion_55 : decode b_BT_appendVersion 55 = .ok (.getfield 21, 3) := by decide +kernel
theorem d_BT_appendVersion_58 : decode b_BT_appendVersion 58 = .ok (.invokevirtual 183, 3) := by decide +kernel
theorem d_BT_appendVersion_61 : decode b_BT_appendVersion 61 = .ok (.istore 5, 2) := by decide +kernel
theorem d_BT_appendVersion_63 : decode b_BT_appendVersion 63 = .ok (.aload_n 0, 1) := by decide +kernel
theorem d_BT_appendVersion_64 : decode b_BT_appendVersion 64 = .ok (.getfield 42, 3) := by decide +kernel
theorem d_BT_appendVersion_67 : decode b_BT_appendVersion 67 = .ok (.aload_n 0, 1) := by decide +kernel
theorem d_BT_appendVersion_68 : decode b_BT_appendVersion 68 = .ok (.getfield 21, 3) := by decide +kernel
theorem d_BT_appendVersion_71 : decode b_BT_appendVersion 71 = .ok (.iload 4, 2) := by decide +kernel
theorem d_BT_appendVersion_73 : decode b_BT_appendVersion 73 = .ok (.invokevirtual 222, 3) := by decide +kernel
theorem d_BT_appendVersion_76 : decode b_BT_appendVersion 76 = .ok (.ifCond .eq 22, 3) := by decide +kernel
theorem d_BT_appendVersion_79 : decode b_BT_appendVersion 79 = .ok (.aload_n 0, 1) := by decide +kernel
theorem d_BT_appendVersion_80 : decode b_BT_appendVersion 80 = .ok (.getfield 42, 3) := by decide +kernel
theorem d_BT_appendVersion_83 : decode b_BT_appendVersion 83 = .ok (.aload_n 0, 1) := by decide +kernel
theorem d_BT_appendVersion_84 : decode b_BT_appendVersion 84 = .ok (.getfield 21, 3) := by decide +kernel
theorem d_BT_appendVersion_87 : decode b_BT_appendVersion 87 = .ok (.iload 4, 2) := by decide +kernel
theorem d_BT_appendVersion_89 : decode b_BT_appendVersion 89 = .ok (.iload_n 3, 1) := by decide +kernel
theorem d_BT_appendVersion_90 : decode b_BT_appendVersion 90 = .ok (.iload 5, 2) := by decide +kernel
theorem d_BT_appendVersion_92 : decode b_BT_appendVersion 92 = .ok (.invokevirtual 225, 3) := by decide +kernel
theorem d_BT_appendVersion_95 : decode b_BT_appendVersion 95 = .ok (.ifCond .ne 6, 3) := by decide +kernel
theorem d_BT_appendVersion_98 : decode b_BT_appendVersion 98 = .ok (.bipush (-4), 2) := by decide +kernel
theorem d_BT_appendVersion_100 : decode b_BT_appendVersion 100 = .ok (.ireturn, 1) := by decide +kernel
theorem d_BT_appendVersion_101 : decode b_BT_appendVersion 101 = .ok (.aload_n 0, 1) := by decide +kernel
theorem d_BT_appendVersion_102 : decode b_BT_appendVersion 102 = .ok (.getfield 21, 3) := by decide +kernel
theorem d_BT_appendVersion_105 : decode b_BT_appendVersion 105 = .ok (.iload 5, 2) := by decide +kernel
theorem d_BT_appendVersion_107 : decode b_BT_appendVersion 107 = .ok (.iload_n 3, 1) := by decide +kernel
theorem d_BT_appendVersion_108 : decode b_BT_appendVersion 108 = .ok (.iconst 1, 1) := by decide +kernel
theorem d_BT_appendVersion_109 : decode b_BT_appendVersion 109 = .ok (.iadd, 1) := by decide +kernel
theorem d_BT_appendVersion_110 : decode b_BT_appendVersion 110 = .ok (.invokevirtual 148, 3) := by decide +kernel
theorem d_BT_appendVersion_113 : decode b_BT_appendVersion 113 = .ok (.iload_n 1, 1) := by decide +kernel
theorem d_BT_appendVersion_114 : decode b_BT_appendVersion 114 = .ok (.ifCond .eq 10, 3) := by decide +kernel
theorem d_BT_appendVersion_117 : decode b_BT_appendVersion 117 = .ok (.aload_n 0, 1) := by decide +kernel
theorem d_BT_appendVersion_118 : decode b_BT_appendVersion 118 = .ok (.getfield 35, 3) := by decide +kernel
theorem d_BT_appendVersion_121 : decode b_BT_appendVersion 121 = .ok (.invokevirtual 144, 3) := by decide +kernel
theorem d_BT_appendVersion_124 : decode b_BT_appendVersion 124 = .ok (.aload_n 0, 1) := by decide +kernel
theorem d_BT_appendVersion_125 : decode b_BT_appendVersion 125 = .ok (.getfield 35, 3) := by decide +kernel
theorem d_BT_appendVersion_128 : decode b_BT_appendVersion 128 = .ok (.iload 4, 2) := by decide +kernel
theorem d_BT_appendVersion_130 : decode b_BT_appendVersion 130 = .ok (.iload_n 3, 1) := by decide +kernel
theorem d_BT_appendVersion_131 : decode b_BT_appendVersion 131 = .ok (.invokevirtual 166, 3) := by decide +kernel
theorem d_BT_appendVersion_134 : decode b_BT_appendVersion 134 = .ok (.iload 4, 2) := by decide +kernel
theorem d_BT_appendVersion_136 : decode b_BT_appendVersion 136 = .ok (.ireturn, 1) := by decide +kernel
theorem d_MO_init_0 : decode b_MO_init 0 = .ok (.aload_n 0, 1) := by decide +kernel
theorem d_MO_init_1 : decode b_MO_init 1 = .ok (.invokespecial 1, 3) := by decide +kernel
theorem d_MO_init_4 : decode b_MO_init 4 = .ok (.aload_n 0, 1) := by decide +kernel
theorem d_MO_init_5 : decode b_MO_init 5 = .ok (.sipush 12800, 3) := by decide +kernel
theorem d_MO_init_8 : decode b_MO_init 8 = .ok (.newarray .int, 2) := by decide +kernel
theorem d_MO_init_10 : decode b_MO_init 10 = .ok (.putfield 7, 3) := by decide +kernel
theorem d_MO_init_13 : decode b_MO_init 13 = .ok (.aload_n 0, 1) := by decide +kernel
theorem d_MO_init_14 : decode b_MO_init 14 = .ok (.sipush 200, 3) := by decide +kernel
theorem d_MO_init_17 : decode b_MO_init 17 = .ok (.newarray .boolean, 2) := by decide +kernel
theorem d_MO_init_19 : decode b_MO_init 19 = .ok (.putfield 13, 3) := by decide +kernel
theorem d_MO_init_22 : decode b_MO_init 22 = .ok (.aload_n 0, 1) := by decide +kernel
theorem d_MO_init_23 : decode b_MO_init 23 = .ok (.iconst (-1), 1) := by decide +kernel
theorem d_MO_init_24 : decode b_MO_init 24 = .ok (.putfield 17, 3) := by decide +kernel
theorem d_MO_init_27 : decode b_MO_init 27 = .ok (.aload_n 0, 1) := by decide +kernel
theorem d_MO_init_28 : decode b_MO_init 28 = .ok (.sipush 4000, 3) := by decide +kernel
theorem d_MO_init_31 : decode b_MO_init 31 = .ok (.newarray .int, 2) := by decide +kernel
theorem d_MO_init_33 : decode b_MO_init 33 = .ok (.putfield 21, 3) := by decide +kernel
theorem d_MO_init_36 : decode b_MO_init 36 = .ok (.aload_n 0, 1) := by decide +kernel
theorem d_MO_init_37 : decode b_MO_init 37 = .ok (.sipush 4000, 3) := by decide +kernel
theorem d_MO_init_40 : decode b_MO_init 40 = .ok (.newarray .int, 2) := by decide +kernel
theorem d_MO_init_42 : decode b_MO_init 42 = .ok (.putfield 24, 3) := by decide +kernel
theorem d_MO_init_45 : decode b_MO_init 45 = .ok (.aload_n 0, 1) := by decide +kernel
theorem d_MO_init_46 : decode b_MO_init 46 = .ok (.sipush 512, 3) := by decide +kernel
theorem d_MO_init_49 : decode b_MO_init 49 = .ok (.newarray .int, 2) := by decide +kernel
theorem d_MO_init_51 : decode b_MO_init 51 = .ok (.putfield 27, 3) := by decide +kernel
theorem d_MO_init_54 : decode b_MO_init 54 = .ok (.aload_n 0, 1) := by decide +kernel
theorem d_MO_init_55 : decode b_MO_init 55 = .ok (.sipush 512, 3) := by decide +kernel
theorem d_MO_init_58 : decode b_MO_init 58 = .ok (.newarray .int, 2) := by decide +kernel
theorem d_MO_init_60 : decode b_MO_init 60 = .ok (.putfield 30, 3) := by decide +kernel
theorem d_MO_init_63 : decode b_MO_init 63 = .ok (.aload_n 0, 1) := by decide +kernel
theorem d_MO_init_64 : decode b_MO_init 64 = .ok (.bipush 64, 2) := by decide +kernel
theorem d_MO_init_66 : decode b_MO_init 66 = .ok (.newarray .boolean, 2) := by decide +kernel
theorem d_MO_init_68 : decode b_MO_init 68 = .ok (.putfield 33, 3) := by decide +kernel
theorem d_MO_init_71 : decode b_MO_init 71 = .ok (.aload_n 0, 1) := by decide +kernel
theorem d_MO_init_72 : decode b_MO_init 72 = .ok (.bipush 64, 2) := by decide +kernel
theorem d_MO_init_74 : decode b_MO_init 74 = .ok (.newarray .int, 2) := by decide +kernel
theorem d_MO_init_76 : decode b_MO_init 76 = .ok (.putfield 36, 3) := by decide +kernel
theorem d_MO_init_79 : decode b_MO_init 79 = .ok (.aload_n 0, 1) := by decide +kernel
theorem d_MO_init_80 : decode b_MO_init 80 = .ok (.sipush 512, 3) := by decide +kernel
theorem d_MO_init_83 : decode b_MO_init 83 = .ok (.newarray .int, 2) := by decide +kernel
theorem d_MO_init_85 : decode b_MO_init 85 = .ok (.putfield 39, 3) := by decide +kernel
theorem d_MO_init_88 : decode b_MO_init 88 = .ok (.aload_n 0, 1) := by decide +kernel
theorem d_MO_init_89 : decode b_MO_init 89 = .ok (.bipush 8, 2) := by decide +kernel
theorem d_MO_init_91 : decode b_MO_init 91 = .ok (.newarray .int, 2) := by decide +kernel
theorem d_MO_init_93 : decode b_MO_init 93 = .ok (.putfield 42, 3) := by decide +kernel
theorem d_MO_init_96 : decode b_MO_init 96 = .ok (.aload_n 0, 1) := by decide +kernel
theorem d_MO_init_97 : decode b_MO_init 97 = .ok (.bipush 64, 2) := by decide +kernel
theorem d_MO_init_99 : decode b_MO_init 99 = .ok (.newarray .int, 2) := by decide +kernel
theorem d_MO_init_101 : decode b_MO_init 101 = .ok (.putfield 45, 3) := by decide +kernel
theorem d_MO_init_104 : decode b_MO_init 104 = .ok (.aload_n 0, 1) := by decide +kernel
theorem d_MO_init_105 : decode b_MO_init 105 = .ok (.bipush 8, 2) := by decide +kernel
theorem d_MO_init_107 : decode b_MO_init 107 = .ok (.newarray .int, 2) := by decide +kernel
theorem d_MO_init_109 : decode b_MO_init 109 = .ok (.putfield 48, 3) := by decide +kernel
theorem d_MO_init_112 : decode b_MO_init 112 = .ok (.aload_n 0, 1) := by decide +kernel
theorem d_MO_init_113 : decode b_MO_init 113 = .ok (.bipush 64, 2) := by decide +kernel
theorem d_MO_init_115 : decode b_MO_init 115 = .ok (.newarray .int, 2) := by decide +kernel
theorem d_MO_init_117 : decode b_MO_init 117 = .ok (.putfield 51, 3) := by decide +kernel
theorem d_MO_init_120 : decode b_MO_init 120 = .ok (.aload_n 0, 1) := by decide +kernel
theorem d_MO_init_121 : decode b_MO_init 121 = .ok (.iload_n 1, 1) := by decide +kernel
theorem d_MO_init_122 : decode b_MO_init 122 = .ok (.bipush 16, 2) := by decide +kernel
theorem d_MO_init_124 : decode b_MO_init 124 = .ok (.if_icmp .ge 8, 3) := by decide +kernel
theorem d_MO_init_127 : decode b_MO_init 127 = .ok (.bipush 16, 2) := by decide +kernel
theorem d_MO_init_129 : decode b_MO_init 129 = .ok (.goto 17, 3) := by decide +kernel
theorem d_MO_init_132 : decode b_MO_init 132 = .ok (.iload_n 1, 1) := by decide +kernel
theorem d_MO_init_133 : decode b_MO_init 133 = .ok (.sipush 200, 3) := by decide +kernel
theorem d_MO_init_136 : decode b_MO_init 136 = .ok (.if_icmp .le 9, 3) := by decide +kernel
theorem d_MO_init_139 : decode b_MO_init 139 = .ok (.sipush 200, 3) := by decide +kernel
theorem d_MO_init_142 : decode b_MO_init 142 = .ok (.goto 4, 3) := by decide +kernel
theorem d_MO_init_145 : decode b_MO_init 145 = .ok (.iload_n 1, 1) := by decide +kernel
theorem d_MO_init_146 : decode b_MO_init 146 = .ok (.putfield 54, 3) := by decide +kernel
theorem d_MO_init_149 : decode b_MO_init 149 = .ok (.return_, 1) := by decide +kernel
theorem d_MO_thrown_0 : decode b_MO_thrown 0 = .ok (.aload_n 0, 1) := by decide +kernel
theorem d_MO_thrown_1 : decode b_MO_thrown 1 = .ok (.getfield 57, 3) := by decide +kernel
theorem d_MO_thrown_4 : decode b_MO_thrown 4 = .ok (.ireturn, 1) := by decide +kernel
theorem d_MO_goes_0 : decode b_MO_goes 0 = .ok (.aload_n 0, 1) := by decide +kernel
theorem d_MO_goes_1 : decode b_MO_goes 1 = .ok (.iload_n 1, 1) := by decide +kernel
theorem d_MO_goes_2 : decode b_MO_goes 2 = .ok (.ifCond .ne 7, 3) := by decide +kernel
theorem d_MO_goes_5 : decode b_MO_goes 5 = .ok (.iconst 1, 1) := by decide +kernel
theorem d_MO_goes_6 : decode b_MO_goes 6 = .ok (.goto 15, 3) := by decide +kernel
theorem d_MO_goes_9 : decode b_MO_goes 9 = .ok (.aload_n 0, 1) := by decide +kernel
theorem d_MO_goes_10 : decode b_MO_goes 10 = .ok (.getfield 60, 3) := by decide +kernel
theorem d_MO_goes_13 : decode b_MO_goes 13 = .ok (.ifCond .eq 7, 3) := by decide +kernel
theorem d_MO_goes_16 : decode b_MO_goes 16 = .ok (.iconst 2, 1) := by decide +kernel
theorem d_MO_goes_17 : decode b_MO_goes 17 = .ok (.goto 4, 3) := by decide +kernel
theorem d_MO_goes_20 : decode b_MO_goes 20 = .ok (.iconst 0, 1) := by decide +kernel
theorem d_MO_goes_21 : decode b_MO_goes 21 = .ok (.putfield 57, 3) := by decide +kernel
theorem d_MO_goes_24 : decode b_MO_goes 24 = .ok (.aload_n 0, 1) := by decide +kernel
theorem d_MO_goes_25 : decode b_MO_goes 25 = .ok (.getfield 57, 3) := by decide +kernel
theorem d_MO_goes_28 : decode b_MO_goes 28 = .ok (.ifCond .ne 7, 3) := by decide +kernel
theorem d_MO_goes_31 : decode b_MO_goes 31 = .ok (.iconst 1, 1) := by decide +kernel
theorem d_MO_goes_32 : decode b_MO_goes 32 = .ok (.goto 4, 3) := by decide +kernel
theorem d_MO_goes_35 : decode b_MO_goes 35 = .ok (.iconst 0, 1) := by decide +kernel
theorem d_MO_goes_36 : decode b_MO_goes 36 = .ok (.ireturn, 1) := by decide +kernel
theorem d_MO_isUp_0 : decode b_MO_isUp 0 = .ok (.aload_n 0, 1) := by decide +kernel
theorem d_MO_isUp_1 : decode b_MO_isUp 1 = .ok (.aload_n 0, 1) := by decide +kernel
theorem d_MO_isUp_2 : decode b_MO_isUp 2 = .ok (.getfield 60, 3) := by decide +kernel
theorem d_MO_isUp_5 : decode b_MO_isUp 5 = .ok (.ifCond .eq 7, 3) := by decide +kernel
theorem d_MO_isUp_8 : decode b_MO_isUp 8 = .ok (.iconst 1, 1) := by decide +kernel
theorem d_MO_isUp_9 : decode b_MO_isUp 9 = .ok (.goto 4, 3) := by decide +kernel
theorem d_MO_isUp_12 : decode b_MO_isUp 12 = .ok (.iconst 0, 1) := by decide +kernel
theorem d_MO_isUp_13 : decode b_MO_isUp 13 = .ok (.putfield 57, 3) := by decide +kernel
theorem d_MO_isUp_16 : decode b_MO_isUp 16 = .ok (.aload_n 0, 1) := by decide +kernel
theorem d_MO_isUp_17 : decode b_MO_isUp 17 = .ok (.getfield 60, 3) := by decide +kernel
theorem d_MO_isUp_20 : decode b_MO_isUp 20 = .ok (.ifCond .ne 7, 3) := by decide +kernel
theorem d_MO_isUp_23 : decode b_MO_isUp 23 = .ok (.iconst 1, 1) := by decide +kernel
theorem d_MO_isUp_24 : decode b_MO_isUp 24 = .ok (.goto 4, 3) := by decide +kernel
theorem d_MO_isUp_27 : decode b_MO_isUp 27 = .ok (.iconst 0, 1) := by decide +kernel
theorem d_MO_isUp_28 : decode b_MO_isUp 28 = .ok (.ireturn, 1) := by decide +kernel
theorem d_MO_isKey_0 : decode b_MO_isKey 0 = .ok (.iload_n 0, 1) := by decide +kernel
theorem d_MO_isKey_1 : decode b_MO_isKey 1 = .ok (.ifCond .lt 14, 3) := by decide +kernel
theorem d_MO_isKey_4 : decode b_MO_isKey 4 = .ok (.iload_n 0, 1) := by decide +kernel
theorem d_MO_isKey_5 : decode b_MO_isKey 5 = .ok (.sipush 512, 3) := by decide +kernel
theorem d_MO_isKey_8 : decode b_MO_isKey 8 = .ok (.if_icmp .ge 7, 3) := by decide +kernel
theorem d_MO_isKey_11 : decode b_MO_isKey 11 = .ok (.iconst 1, 1) := by decide +kernel
theorem d_MO_isKey_12 : decode b_MO_isKey 12 = .ok (.goto 4, 3) := by decide +kernel
theorem d_MO_isKey_15 : decode b_MO_isKey 15 = .ok (.iconst 0, 1) := by decide +kernel
theorem d_MO_isKey_16 : decode b_MO_isKey 16 = .ok (.ireturn, 1) := by decide +kernel
theorem d_MO_placeOf_0 : decode b_MO_placeOf 0 = .ok (.bipush 64, 2) := by decide +kernel
theorem d_MO_placeOf_2 : decode b_MO_placeOf 2 = .ok (.iload_n 1, 1) := by decide +kernel
theorem d_MO_placeOf_3 : decode b_MO_placeOf 3 = .ok (.aload_n 0, 1) := by decide +kernel
theorem d_MO_placeOf_4 : decode b_MO_placeOf 4 = .ok (.getfield 54, 3) := by decide +kernel
theorem d_MO_placeOf_7 : decode b_MO_placeOf 7 = .ok (.irem, 1) := by decide +kernel
theorem d_MO_placeOf_8 : decode b_MO_placeOf 8 = .ok (.imul, 1) := by decide +kernel
theorem d_MO_placeOf_9 : decode b_MO_placeOf 9 = .ok (.ireturn, 1) := by decide +kernel
theorem d_MO_isUsed_0 : decode b_MO_isUsed 0 = .ok (.iload_n 1, 1) := by decide +kernel
theorem d_MO_isUsed_1 : decode b_MO_isUsed 1 = .ok (.aload_n 0, 1) := by decide +kernel
theorem d_MO_isUsed_2 : decode b_MO_isUsed 2 = .ok (.getfield 64, 3) := by decide +kernel
theorem d_MO_isUsed_5 : decode b_MO_isUsed 5 = .ok (.if_icmp .lt 15, 3) := by decide +kernel
theorem d_MO_isUsed_8 : decode b_MO_isUsed 8 = .ok (.iload_n 1, 1) := by decide +kernel
theorem d_MO_isUsed_9 : decode b_MO_isUsed 9 = .ok (.aload_n 0, 1) := by decide +kernel
theorem d_MO_isUsed_10 : decode b_MO_isUsed 10 = .ok (.getfield 67, 3) := by decide +kernel
theorem d_MO_isUsed_13 : decode b_MO_isUsed 13 = .ok (.if_icmp .ge 7, 3) := by decide +kernel
theorem d_MO_isUsed_16 : decode b_MO_isUsed 16 = .ok (.iconst 1, 1) := by decide +kernel
theorem d_MO_isUsed_17 : decode b_MO_isUsed 17 = .ok (.goto 4, 3) := by decide +kernel
theorem d_MO_isUsed_20 : decode b_MO_isUsed 20 = .ok (.iconst 0, 1) := by decide +kernel
theorem d_MO_isUsed_21 : decode b_MO_isUsed 21 = .ok (.ireturn, 1) := by decide +kernel
theorem d_MO_number_0 : decode b_MO_number 0 = .ok (.aload_n 0, 1) := by decide +kernel
theorem d_MO_number_1 : decode b_MO_number 1 = .ok (.getfield 7, 3) := by decide +kernel
theorem d_MO_number_4 : decode b_MO_number 4 = .ok (.iload_n 1, 1) := by decide +kernel
theorem d_MO_number_5 : decode b_MO_number 5 = .ok (.iaload, 1) := by decide +kernel
theorem d_MO_number_6 : decode b_MO_number 6 = .ok (.bipush 24, 2) := by decide +kernel
theorem d_MO_number_8 : decode b_MO_number 8 = .ok (.ishl, 1) := by decide +kernel
theorem d_MO_number_9 : decode b_MO_number 9 = .ok (.aload_n 0, 1) := by decide +kernel
theorem d_MO_number_10 : decode b_MO_number 10 = .ok (.getfield 7, 3) := by decide +kernel
theorem d_MO_number_13 : decode b_MO_number 13 = .ok (.iload_n 1, 1) := by decide +kernel
theorem d_MO_number_14 : decode b_MO_number 14 = .ok (.iconst 1, 1) := by decide +kernel
theorem d_MO_number_15 : decode b_MO_number 15 = .ok (.iadd, 1) := by decide +kernel
theorem d_MO_number_16 : decode b_MO_number 16 = .ok (.iaload, 1) := by decide +kernel
theorem d_MO_number_17 : decode b_MO_number 17 = .ok (.bipush 16, 2) := by decide +kernel
theorem d_MO_number_19 : decode b_MO_number 19 = .ok (.ishl, 1) := by decide +kernel
theorem d_MO_number_20 : decode b_MO_number 20 = .ok (.ior, 1) := by decide +kernel
theorem d_MO_number_21 : decode b_MO_number 21 = .ok (.aload_n 0, 1) := by decide +kernel
theorem d_MO_number_22 : decode b_MO_number 22 = .ok (.getfield 7, 3) := by decide +kernel
theorem d_MO_number_25 : decode b_MO_number 25 = .ok (.iload_n 1, 1) := by decide +kernel
theorem d_MO_number_26 : decode b_MO_number 26 = .ok (.iconst 2, 1) := by decide +kernel
theorem d_MO_number_27 : decode b_MO_number 27 = .ok (.iadd, 1) := by decide +kernel
theorem d_MO_number_28 : decode b_MO_number 28 = .ok (.iaload, 1) := by decide +kernel
theorem d_MO_number_29 : decode b_MO_number 29 = .ok (.bipush 8, 2) := by decide +kernel
theorem d_MO_number_31 : decode b_MO_number 31 = .ok (.ishl, 1) := by decide +kernel
theorem d_MO_number_32 : decode b_MO_number 32 = .ok (.ior, 1) := by decide +kernel
theorem d_MO_number_33 : decode b_MO_number 33 = .ok (.aload_n 0, 1) := by decide +kernel
theorem d_MO_number_34 : decode b_MO_number 34 = .ok (.getfield 7, 3) := by decide +kernel
theorem d_MO_number_37 : decode b_MO_number 37 = .ok (.iload_n 1, 1) := by decide +kernel
theorem d_MO_number_38 : decode b_MO_number 38 = .ok (.iconst 3, 1) := by decide +kernel
theorem d_MO_number_39 : decode b_MO_number 39 = .ok (.iadd, 1) := by decide +kernel
theorem d_MO_number_40 : decode b_MO_number 40 = .ok (.iaload, 1) := by decide +kernel
theorem d_MO_number_41 : decode b_MO_number 41 = .ok (.ior, 1) := by decide +kernel
theorem d_MO_number_42 : decode b_MO_number 42 = .ok (.ireturn, 1) := by decide +kernel
theorem d_MO_mixed_0 : decode b_MO_mixed 0 = .ok (.lload_n 0, 1) := by decide +kernel
theorem d_MO_mixed_1 : decode b_MO_mixed 1 = .ok (.iload_n 2, 1) := by decide +kernel
theorem d_MO_mixed_2 : decode b_MO_mixed 2 = .ok (.i2l, 1) := by decide +kernel
theorem d_MO_mixed_3 : decode b_MO_mixed 3 = .ok (.lxor, 1) := by decide +kernel
theorem d_MO_mixed_4 : decode b_MO_mixed 4 = .ok (.lstore_n 3, 1) := by decide +kernel
theorem d_MO_mixed_5 : decode b_MO_mixed 5 = .ok (.lload_n 3, 1) := by decide +kernel
theorem d_MO_mixed_6 : decode b_MO_mixed 6 = .ok (.bipush 47, 2) := by decide +kernel
theorem d_MO_mixed_8 : decode b_MO_mixed 8 = .ok (.lshl, 1) := by decide +kernel
theorem d_MO_mixed_9 : decode b_MO_mixed 9 = .ok (.lload_n 3, 1) := by decide +kernel
theorem d_MO_mixed_10 : decode b_MO_mixed 10 = .ok (.bipush 17, 2) := by decide +kernel
theorem d_MO_mixed_12 : decode b_MO_mixed 12 = .ok (.lushr, 1) := by decide +kernel
theorem d_MO_mixed_13 : decode b_MO_mixed 13 = .ok (.lor, 1) := by decide +kernel
theorem d_MO_mixed_14 : decode b_MO_mixed 14 = .ok (.ldc2_w 70, 3) := by decide +kernel
theorem d_MO_mixed_17 : decode b_MO_mixed 17 = .ok (.lmul, 1) := by decide +kernel
theorem d_MO_mixed_18 : decode b_MO_mixed 18 = .ok (.lreturn, 1) := by decide +kernel
theorem d_MO_hasSum_0 : decode b_MO_hasSum 0 = .ok (.lconst 0, 1) := by decide +kernel
theorem d_MO_hasSum_1 : decode b_MO_hasSum 1 = .ok (.lstore_n 2, 1) := by decide +kernel
theorem d_MO_hasSum_2 : decode b_MO_hasSum 2 = .ok (.iconst 0, 1) := by decide +kernel
theorem d_MO_hasSum_3 : decode b_MO_hasSum 3 = .ok (.istore 4, 2) := by decide +kernel
theorem d_MO_hasSum_5 : decode b_MO_hasSum 5 = .ok (.iload 4, 2) := by decide +kernel
theorem d_MO_hasSum_7 : decode b_MO_hasSum 7 = .ok (.bipush 56, 2) := by decide +kernel
theorem d_MO_hasSum_9 : decode b_MO_hasSum 9 = .ok (.if_icmp .ge 23, 3) := by decide +kernel
theorem d_MO_hasSum_12 : decode b_MO_hasSum 12 = .ok (.lload_n 2, 1) := by decide +kernel
theorem d_MO_hasSum_13 : decode b_MO_hasSum 13 = .ok (.aload_n 0, 1) := by decide +kernel
theorem d_MO_hasSum_14 : decode b_MO_hasSum 14 = .ok (.getfield 7, 3) := by decide +kernel
theorem d_MO_hasSum_17 : decode b_MO_hasSum 17 = .ok (.iload_n 1, 1) := by decide +kernel
theorem d_MO_hasSum_18 : decode b_MO_hasSum 18 = .ok (.iload 4, 2) := by decide +kernel
theorem d_MO_hasSum_20 : decode b_MO_hasSum 20 = .ok (.iadd, 1) := by decide +kernel
theorem d_MO_hasSum_21 : decode b_MO_hasSum 21 = .ok (.iaload, 1) := by decide +kernel
theorem d_MO_hasSum_22 : decode b_MO_hasSum 22 = .ok (.invokestatic 72, 3) := by decide +kernel
theorem d_MO_hasSum_25 : decode b_MO_hasSum 25 = .ok (.lstore_n 2, 1) := by decide +kernel
theorem d_MO_hasSum_26 : decode b_MO_hasSum 26 = .ok (.iinc 4 1, 3) := by decide +kernel
theorem d_MO_hasSum_29 : decode b_MO_hasSum 29 = .ok (.goto (-24), 3) := by decide +kernel
theorem d_MO_hasSum_32 : decode b_MO_hasSum 32 = .ok (.iconst 1, 1) := by decide +kernel
theorem d_MO_hasSum_33 : decode b_MO_hasSum 33 = .ok (.istore 4, 2) := by decide +kernel
theorem d_MO_hasSum_35 : decode b_MO_hasSum 35 = .ok (.iconst 0, 1) := by decide +kernel
theorem d_MO_hasSum_36 : decode b_MO_hasSum 36 = .ok (.istore 5, 2) := by decide +kernel
theorem d_MO_hasSum_38 : decode b_MO_hasSum 38 = .ok (.iload 5, 2) := by decide +kernel
theorem d_MO_hasSum_40 : decode b_MO_hasSum 40 = .ok (.bipush 8, 2) := by decide +kernel
theorem d_MO_hasSum_42 : decode b_MO_hasSum 42 = .ok (.if_icmp .ge 51, 3) := by decide +kernel
theorem d_MO_hasSum_45 : decode b_MO_hasSum 45 = .ok (.iload 4, 2) := by decide +kernel
theorem d_MO_hasSum_47 : decode b_MO_hasSum 47 = .ok (.ifCond .eq 37, 3) := by decide +kernel
theorem d_MO_hasSum_50 : decode b_MO_hasSum 50 = .ok (.aload_n 0, 1) := by decide +kernel
theorem d_MO_hasSum_51 : decode b_MO_hasSum 51 = .ok (.getfield 7, 3) := by decide +kernel
theorem d_MO_hasSum_54 : decode b_MO_hasSum 54 = .ok (.iload_n 1, 1) := by decide +kernel
theorem d_MO_hasSum_55 : decode b_MO_hasSum 55 = .ok (.bipush 56, 2) := by decide +kernel
theorem d_MO_hasSum_57 : decode b_MO_hasSum 57 = .ok (.iadd, 1) := by decide +kernel
theorem d_MO_hasSum_58 : decode b_MO_hasSum 58 = .ok (.iload 5, 2) := by decide +kernel
theorem d_MO_hasSum_60 : decode b_MO_hasSum 60 = .ok (.iadd, 1) := by decide +kernel
theorem d_MO_hasSum_61 : decode b_MO_hasSum 61 = .ok (.iaload, 1) := by decide +kernel
theorem d_MO_hasSum_62 : decode b_MO_hasSum 62 = .ok (.lload_n 2, 1) := by decide +kernel
theorem d_MO_hasSum_63 : decode b_MO_hasSum 63 = .ok (.bipush 56, 2) := by decide +kernel
theorem d_MO_hasSum_65 : decode b_MO_hasSum 65 = .ok (.bipush 8, 2) := by decide +kernel
theorem d_MO_hasSum_67 : decode b_MO_hasSum 67 = .ok (.iload 5, 2) := by decide +kernel
theorem d_MO_hasSum_69 : decode b_MO_hasSum 69 = .ok (.imul, 1) := by decide +kernel
theorem d_MO_hasSum_70 : decode b_MO_hasSum 70 = .ok (.isub, 1) := by decide +kernel
theorem d_MO_hasSum_71 : decode b_MO_hasSum 71 = .ok (.lushr, 1) := by decide +kernel
theorem d_MO_hasSum_72 : decode b_MO_hasSum 72 = .ok (.ldc2_w 76, 3) := by decide +kernel
theorem d_MO_hasSum_75 : decode b_MO_hasSum 75 = .ok (.land, 1) := by decide +kernel
theorem d_MO_hasSum_76 : decode b_MO_hasSum 76 = .ok (.l2i, 1) := by decide +kernel
theorem d_MO_hasSum_77 : decode b_MO_hasSum 77 = .ok (.if_icmp .ne 7, 3) := by decide +kernel
theorem d_MO_hasSum_80 : decode b_MO_hasSum 80 = .ok (.iconst 1, 1) := by decide +kernel
theorem d_MO_hasSum_81 : decode b_MO_hasSum 81 = .ok (.goto 4, 3) := by decide +kernel
theorem d_MO_hasSum_84 : decode b_MO_hasSum 84 = .ok (.iconst 0, 1) := by decide +kernel
theorem d_MO_hasSum_85 : decode b_MO_hasSum 85 = .ok (.istore 4, 2) := by decide +kernel
theorem d_MO_hasSum_87 : decode b_MO_hasSum 87 = .ok (.iinc 5 1, 3) := by decide +kernel
theorem d_MO_hasSum_90 : decode b_MO_hasSum 90 = .ok (.goto (-52), 3) := by decide +kernel
theorem d_MO_hasSum_93 : decode b_MO_hasSum 93 = .ok (.iload 4, 2) := by decide +kernel
theorem d_MO_hasSum_95 : decode b_MO_hasSum 95 = .ok (.ifCond .eq 19, 3) := by decide +kernel
theorem d_MO_hasSum_98 : decode b_MO_hasSum 98 = .ok (.aload_n 0, 1) := by decide +kernel
theorem d_MO_hasSum_99 : decode b_MO_hasSum 99 = .ok (.getfield 13, 3) := by decide +kernel
theorem d_MO_hasSum_102 : decode b_MO_hasSum 102 = .ok (.iload_n 1, 1) := by decide +kernel
theorem d_MO_hasSum_103 : decode b_MO_hasSum 103 = .ok (.bipush 64, 2) := by decide +kernel
theorem d_MO_hasSum_105 : decode b_MO_hasSum 105 = .ok (.idiv, 1) := by decide +kernel
theorem d_MO_hasSum_106 : decode b_MO_hasSum 106 = .ok (.baload, 1) := by decide +kernel
theorem d_MO_hasSum_107 : decode b_MO_hasSum 107 = .ok (.ifCond .ne 7, 3) := by decide +kernel
theorem d_MO_hasSum_110 : decode b_MO_hasSum 110 = .ok (.iconst 1, 1) := by decide +kernel
theorem d_MO_hasSum_111 : decode b_MO_hasSum 111 = .ok (.goto 4, 3) := by decide +kernel
theorem d_MO_hasSum_114 : decode b_MO_hasSum 114 = .ok (.iconst 0, 1) := by decide +kernel
theorem d_MO_hasSum_115 : decode b_MO_hasSum 115 = .ok (.ireturn, 1) := by decide +kernel
theorem d_MO_isBad_0 : decode b_MO_isBad 0 = .ok (.aload_n 0, 1) := by decide +kernel
theorem d_MO_isBad_1 : decode b_MO_isBad 1 = .ok (.iload_n 1, 1) := by decide +kernel
theorem d_MO_isBad_2 : decode b_MO_isBad 2 = .ok (.invokevirtual 78, 3) := by decide +kernel
theorem d_MO_isBad_5 : decode b_MO_isBad 5 = .ok (.ifCond .ne 5, 3) := by decide +kernel
theorem d_MO_isBad_8 : decode b_MO_isBad 8 = .ok (.iconst 1, 1) := by decide +kernel
theorem d_MO_isBad_9 : decode b_MO_isBad 9 = .ok (.ireturn, 1) := by decide +kernel
theorem d_MO_isBad_10 : decode b_MO_isBad 10 = .ok (.aload_n 0, 1) := by decide +kernel
theorem d_MO_isBad_11 : decode b_MO_isBad 11 = .ok (.iload_n 1, 1) := by decide +kernel
theorem d_MO_isBad_12 : decode b_MO_isBad 12 = .ok (.invokevirtual 82, 3) := by decide +kernel
theorem d_MO_isBad_15 : decode b_MO_isBad 15 = .ok (.istore_n 3, 1) := by decide +kernel
theorem d_MO_isBad_16 : decode b_MO_isBad 16 = .ok (.aload_n 0, 1) := by decide +kernel
theorem d_MO_isBad_17 : decode b_MO_isBad 17 = .ok (.iload_n 3, 1) := by decide +kernel
theorem d_MO_isBad_18 : decode b_MO_isBad 18 = .ok (.invokevirtual 86, 3) := by decide +kernel
theorem d_MO_isBad_21 : decode b_MO_isBad 21 = .ok (.ifCond .eq 25, 3) := by decide +kernel
theorem d_MO_isBad_24 : decode b_MO_isBad 24 = .ok (.aload_n 0, 1) := by decide +kernel
theorem d_MO_isBad_25 : decode b_MO_isBad 25 = .ok (.iload_n 3, 1) := by decide +kernel
theorem d_MO_isBad_26 : decode b_MO_isBad 26 = .ok (.bipush 40, 2) := by decide +kernel
theorem d_MO_isBad_28 : decode b_MO_isBad 28 = .ok (.iadd, 1) := by decide +kernel
theorem d_MO_isBad_29 : decode b_MO_isBad 29 = .ok (.invokevirtual 89, 3) := by decide +kernel
theorem d_MO_isBad_32 : decode b_MO_isBad 32 = .ok (.iload_n 1, 1) := by decide +kernel
theorem d_MO_isBad_33 : decode b_MO_isBad 33 = .ok (.if_icmp .ne 13, 3) := by decide +kernel
theorem d_MO_isBad_36 : decode b_MO_isBad 36 = .ok (.aload_n 0, 1) := by decide +kernel
theorem d_MO_isBad_37 : decode b_MO_isBad 37 = .ok (.getfield 7, 3) := by decide +kernel
theorem d_MO_isBad_40 : decode b_MO_isBad 40 = .ok (.iload_n 3, 1) := by decide +kernel
theorem d_MO_isBad_41 : decode b_MO_isBad 41 = .ok (.iaload, 1) := by decide +kernel
theorem d_MO_isBad_42 : decode b_MO_isBad 42 = .ok (.iload_n 2, 1) := by decide +kernel
theorem d_MO_isBad_43 : decode b_MO_isBad 43 = .ok (.if_icmp .eq 7, 3) := by decide +kernel
theorem d_MO_isBad_46 : decode b_MO_isBad 46 = .ok (.iconst 1, 1) := by decide +kernel
theorem d_MO_isBad_47 : decode b_MO_isBad 47 = .ok (.goto 4, 3) := by decide +kernel
theorem d_MO_isBad_50 : decode b_MO_isBad 50 = .ok (.iconst 0, 1) := by decide +kernel
theorem d_MO_isBad_51 : decode b_MO_isBad 51 = .ok (.ireturn, 1) := by decide +kernel
theorem d_MO_bitsOf_0 : decode b_MO_bitsOf 0 = .ok (.aload_n 0, 1) := by decide +kernel
theorem d_MO_bitsOf_1 : decode b_MO_bitsOf 1 = .ok (.getfield 7, 3) := by decide +kernel
theorem d_MO_bitsOf_4 : decode b_MO_bitsOf 4 = .ok (.aload_n 0, 1) := by decide +kernel
theorem d_MO_bitsOf_5 : decode b_MO_bitsOf 5 = .ok (.iload_n 1, 1) := by decide +kernel
theorem d_MO_bitsOf_6 : decode b_MO_bitsOf 6 = .ok (.invokevirtual 82, 3) := by decide +kernel
theorem d_MO_bitsOf_9 : decode b_MO_bitsOf 9 = .ok (.iconst 1, 1) := by decide +kernel
theorem d_MO_bitsOf_10 : decode b_MO_bitsOf 10 = .ok (.iadd, 1) := by decide +kernel
theorem d_MO_bitsOf_11 : decode b_MO_bitsOf 11 = .ok (.iaload, 1) := by decide +kernel
theorem d_MO_bitsOf_12 : decode b_MO_bitsOf 12 = .ok (.ireturn, 1) := by decide +kernel
theorem d_MO_entryOf_0 : decode b_MO_entryOf 0 = .ok (.aload_n 0, 1) := by decide +kernel
theorem d_MO_entryOf_1 : decode b_MO_entryOf 1 = .ok (.aload_n 0, 1) := by decide +kernel
theorem d_MO_entryOf_2 : decode b_MO_entryOf 2 = .ok (.iload_n 1, 1) := by decide +kernel
theorem d_MO_entryOf_3 : decode b_MO_entryOf 3 = .ok (.invokevirtual 82, 3) := by decide +kernel
theorem d_MO_entryOf_6 : decode b_MO_entryOf 6 = .ok (.bipush 8, 2) := by decide +kernel
theorem d_MO_entryOf_8 : decode b_MO_entryOf 8 = .ok (.iadd, 1) := by decide +kernel
theorem d_MO_entryOf_9 : decode b_MO_entryOf 9 = .ok (.iconst 4, 1) := by decide +kernel
theorem d_MO_entryOf_10 : decode b_MO_entryOf 10 = .ok (.iload_n 2, 1) := by decide +kernel
theorem d_MO_entryOf_11 : decode b_MO_entryOf 11 = .ok (.imul, 1) := by decide +kernel
theorem d_MO_entryOf_12 : decode b_MO_entryOf 12 = .ok (.iadd, 1) := by decide +kernel
theorem d_MO_entryOf_13 : decode b_MO_entryOf 13 = .ok (.invokevirtual 89, 3) := by decide +kernel
theorem d_MO_entryOf_16 : decode b_MO_entryOf 16 = .ok (.ireturn, 1) := by decide +kernel
theorem d_MO_hasEntry_0 : decode b_MO_hasEntry 0 = .ok (.aload_n 0, 1) := by decide +kernel
theorem d_MO_hasEntry_1 : decode b_MO_hasEntry 1 = .ok (.iload_n 1, 1) := by decide +kernel
theorem d_MO_hasEntry_2 : decode b_MO_hasEntry 2 = .ok (.invokevirtual 92, 3) := by decide +kernel
theorem d_MO_hasEntry_5 : decode b_MO_hasEntry 5 = .ok (.iload_n 2, 1) := by decide +kernel
theorem d_MO_hasEntry_6 : decode b_MO_hasEntry 6 = .ok (.ishr, 1) := by decide +kernel
theorem d_MO_hasEntry_7 : decode b_MO_hasEntry 7 = .ok (.iconst 1, 1) := by decide +kernel
theorem d_MO_hasEntry_8 : decode b_MO_hasEntry 8 = .ok (.iand, 1) := by decide +kernel
theorem d_MO_hasEntry_9 : decode b_MO_hasEntry 9 = .ok (.iconst 1, 1) := by decide +kernel
theorem d_MO_hasEntry_10 : decode b_MO_hasEntry 10 = .ok (.if_icmp .ne 7, 3) := by decide +kernel
theorem d_MO_hasEntry_13 : decode b_MO_hasEntry 13 = .ok (.iconst 1, 1) := by decide +kernel
theorem d_MO_hasEntry_14 : decode b_MO_hasEntry 14 = .ok (.goto 4, 3) := by decide +kernel
theorem d_MO_hasEntry_17 : decode b_MO_hasEntry 17 = .ok (.iconst 0, 1) := by decide +kernel
theorem d_MO_hasEntry_18 : decode b_MO_hasEntry 18 = .ok (.ireturn, 1) := by decide +kernel
theorem d_MO_change_0 : decode b_MO_change 0 = .ok (.aload_n 0, 1) := by decide +kernel
theorem d_MO_change_1 : decode b_MO_change 1 = .ok (.aload_n 0, 1) := by decide +kernel
theorem d_MO_change_2 : decode b_MO_change 2 = .ok (.getfield 27, 3) := by decide +kernel
theorem d_MO_change_5 : decode b_MO_change 5 = .ok (.iload_n 1, 1) := by decide +kernel
theorem d_MO_change_6 : decode b_MO_change 6 = .ok (.iaload, 1) := by decide +kernel
theorem d_MO_change_7 : decode b_MO_change 7 = .ok (.ifCond .ne 12, 3) := by decide +kernel
theorem d_MO_change_10 : decode b_MO_change 10 = .ok (.aload_n 0, 1) := by decide +kernel
theorem d_MO_change_11 : decode b_MO_change 11 = .ok (.getfield 95, 3) := by decide +kernel
theorem d_MO_change_14 : decode b_MO_change 14 = .ok (.iconst 1, 1) := by decide +kernel
theorem d_MO_change_15 : decode b_MO_change 15 = .ok (.iadd, 1) := by decide +kernel
theorem d_MO_change_16 : decode b_MO_change 16 = .ok (.goto 7, 3) := by decide +kernel
theorem d_MO_change_19 : decode b_MO_change 19 = .ok (.aload_n 0, 1) := by decide +kernel
theorem d_MO_change_20 : decode b_MO_change 20 = .ok (.getfield 95, 3) := by decide +kernel
theorem d_MO_change_23 : decode b_MO_change 23 = .ok (.putfield 95, 3) := by decide +kernel
theorem d_MO_change_26 : decode b_MO_change 26 = .ok (.aload_n 0, 1) := by decide +kernel
theorem d_MO_change_27 : decode b_MO_change 27 = .ok (.getfield 27, 3) := by decide +kernel
theorem d_MO_change_30 : decode b_MO_change 30 = .ok (.iload_n 1, 1) := by decide +kernel
theorem d_MO_change_31 : decode b_MO_change 31 = .ok (.iload_n 2, 1) := by decide +kernel
theorem d_MO_change_32 : decode b_MO_change 32 = .ok (.iastore, 1) := by decide +kernel
theorem d_MO_change_33 : decode b_MO_change 33 = .ok (.aload_n 0, 1) := by decide +kernel
theorem d_MO_change_34 : decode b_MO_change 34 = .ok (.getfield 30, 3) := by decide +kernel
theorem d_MO_change_37 : decode b_MO_change 37 = .ok (.iload_n 1, 1) := by decide +kernel
theorem d_MO_change_38 : decode b_MO_change 38 = .ok (.iload_n 3, 1) := by decide +kernel
theorem d_MO_change_39 : decode b_MO_change 39 = .ok (.iastore, 1) := by decide +kernel
theorem d_MO_change_40 : decode b_MO_change 40 = .ok (.return_, 1) := by decide +kernel
theorem d_MO_put_0 : decode b_MO_put 0 = .ok (.aload_n 0, 1) := by decide +kernel
theorem d_MO_put_1 : decode b_MO_put 1 = .ok (.iload_n 1, 1) := by decide +kernel
theorem d_MO_put_2 : decode b_MO_put 2 = .ok (.invokestatic 98, 3) := by decide +kernel
theorem d_MO_put_5 : decode b_MO_put 5 = .ok (.invokevirtual 101, 3) := by decide +kernel
theorem d_MO_put_8 : decode b_MO_put 8 = .ok (.ifCond .ne 5, 3) := by decide +kernel
theorem d_MO_put_11 : decode b_MO_put 11 = .ok (.iconst 0, 1) := by decide +kernel
theorem d_MO_put_12 : decode b_MO_put 12 = .ok (.ireturn, 1) := by decide +kernel
theorem d_MO_put_13 : decode b_MO_put 13 = .ok (.aload_n 0, 1) := by decide +kernel
theorem d_MO_put_14 : decode b_MO_put 14 = .ok (.iload_n 1, 1) := by decide +kernel
theorem d_MO_put_15 : decode b_MO_put 15 = .ok (.iconst 1, 1) := by decide +kernel
theorem d_MO_put_16 : decode b_MO_put 16 = .ok (.iload_n 2, 1) := by decide +kernel
theorem d_MO_put_17 : decode b_MO_put 17 = .ok (.invokevirtual 105, 3) := by decide +kernel
theorem d_MO_put_20 : decode b_MO_put 20 = .ok (.aload_n 0, 1) := by decide +kernel
theorem d_MO_put_21 : decode b_MO_put 21 = .ok (.getfield 95, 3) := by decide +kernel
theorem d_MO_put_24 : decode b_MO_put 24 = .ok (.ireturn, 1) := by decide +kernel
theorem d_MO_drop_0 : decode b_MO_drop 0 = .ok (.aload_n 0, 1) := by decide +kernel
theorem d_MO_drop_1 : decode b_MO_drop 1 = .ok (.iload_n 1, 1) := by decide +kernel
theorem d_MO_drop_2 : decode b_MO_drop 2 = .ok (.invokestatic 98, 3) := by decide +kernel
theorem d_MO_drop_5 : decode b_MO_drop 5 = .ok (.invokevirtual 101, 3) := by decide +kernel
theorem d_MO_drop_8 : decode b_MO_drop 8 = .ok (.ifCond .ne 5, 3) := by decide +kernel
theorem d_MO_drop_11 : decode b_MO_drop 11 = .ok (.iconst 0, 1) := by decide +kernel
theorem d_MO_drop_12 : decode b_MO_drop 12 = .ok (.ireturn, 1) := by decide +kernel
theorem d_MO_drop_13 : decode b_MO_drop 13 = .ok (.aload_n 0, 1) := by decide +kernel
theorem d_MO_drop_14 : decode b_MO_drop 14 = .ok (.iload_n 1, 1) := by decide +kernel
theorem d_MO_drop_15 : decode b_MO_drop 15 = .ok (.iconst 2, 1) := by decide +kernel
theorem d_MO_drop_16 : decode b_MO_drop 16 = .ok (.iconst 0, 1) := by decide +kernel
theorem d_MO_drop_17 : decode b_MO_drop 17 = .ok (.invokevirtual 105, 3) := by decide +kernel
theorem d_MO_drop_20 : decode b_MO_drop 20 = .ok (.aload_n 0, 1) := by decide +kernel
theorem d_MO_drop_21 : decode b_MO_drop 21 = .ok (.getfield 95, 3) := by decide +kernel
theorem d_MO_drop_24 : decode b_MO_drop 24 = .ok (.ireturn, 1) := by decide +kernel
theorem d_MO_clear_0 : decode b_MO_clear 0 = .ok (.aload_n 0, 1) := by decide +kernel
theorem d_MO_clear_1 : decode b_MO_clear 1 = .ok (.iconst 0, 1) := by decide +kernel
theorem d_MO_clear_2 : decode b_MO_clear 2 = .ok (.putfield 95, 3) := by decide +kernel
theorem d_MO_clear_5 : decode b_MO_clear 5 = .ok (.iconst 0, 1) := by decide +kernel
theorem d_MO_clear_6 : decode b_MO_clear 6 = .ok (.istore_n 1, 1) := by decide +kernel
theorem d_MO_clear_7 : decode b_MO_clear 7 = .ok (.iload_n 1, 1) := by decide +kernel
theorem d_MO_clear_8 : decode b_MO_clear 8 = .ok (.sipush 512, 3) := by decide +kernel
theorem d_MO_clear_11 : decode b_MO_clear 11 = .ok (.if_icmp .ge 16, 3) := by decide +kernel
theorem d_MO_clear_14 : decode b_MO_clear 14 = .ok (.aload_n 0, 1) := by decide +kernel
theorem d_MO_clear_15 : decode b_MO_clear 15 = .ok (.getfield 27, 3) := by decide +kernel
theorem d_MO_clear_18 : decode b_MO_clear 18 = .ok (.iload_n 1, 1) := by decide +kernel
theorem d_MO_clear_19 : decode b_MO_clear 19 = .ok (.iconst 0, 1) := by decide +kernel
theorem d_MO_clear_20 : decode b_MO_clear 20 = .ok (.iastore, 1) := by decide +kernel
theorem d_MO_clear_21 : decode b_MO_clear 21 = .ok (.iinc 1 1, 3) := by decide +kernel
theorem d_MO_clear_24 : decode b_MO_clear 24 = .ok (.goto (-17), 3) := by decide +kernel
theorem d_MO_clear_27 : decode b_MO_clear 27 = .ok (.return_, 1) := by decide +kernel
theorem d_MO_undo_0 : decode b_MO_undo 0 = .ok (.aload_n 0, 1) := by decide +kernel
theorem d_MO_undo_1 : decode b_MO_undo 1 = .ok (.invokevirtual 109, 3) := by decide +kernel
theorem d_MO_undo_4 : decode b_MO_undo 4 = .ok (.ifCond .ne 5, 3) := by decide +kernel
theorem d_MO_undo_7 : decode b_MO_undo 7 = .ok (.iconst 0, 1) := by decide +kernel
theorem d_MO_undo_8 : decode b_MO_undo 8 = .ok (.ireturn, 1) := by decide +kernel
theorem d_MO_undo_9 : decode b_MO_undo 9 = .ok (.aload_n 0, 1) := by decide +kernel
theorem d_MO_undo_10 : decode b_MO_undo 10 = .ok (.getfield 95, 3) := by decide +kernel
theorem d_MO_undo_13 : decode b_MO_undo 13 = .ok (.istore_n 1, 1) := by decide +kernel
theorem d_MO_undo_14 : decode b_MO_undo 14 = .ok (.aload_n 0, 1) := by decide +kernel
theorem d_MO_undo_15 : decode b_MO_undo 15 = .ok (.invokevirtual 113, 3) := by decide +kernel
theorem d_MO_undo_18 : decode b_MO_undo 18 = .ok (.iload_n 1, 1) := by decide +kernel
theorem d_MO_undo_19 : decode b_MO_undo 19 = .ok (.ireturn, 1) := by decide +kernel
theorem d_MO_rootOf_0 : decode b_MO_rootOf 0 = .ok (.iconst (-1), 1) := by decide +kernel
theorem d_MO_rootOf_1 : decode b_MO_rootOf 1 = .ok (.istore_n 2, 1) := by decide +kernel
theorem d_MO_rootOf_2 : decode b_MO_rootOf 2 = .ok (.iconst 0, 1) := by decide +kernel
theorem d_MO_rootOf_3 : decode b_MO_rootOf 3 = .ok (.istore_n 3, 1) := by decide +kernel
theorem d_MO_rootOf_4 : decode b_MO_rootOf 4 = .ok (.iload_n 3, 1) := by decide +kernel
theorem d_MO_rootOf_5 : decode b_MO_rootOf 5 = .ok (.aload_n 0, 1) := by decide +kernel
theorem d_MO_rootOf_6 : decode b_MO_rootOf 6 = .ok (.getfield 116, 3) := by decide +kernel
theorem d_MO_rootOf_9 : decode b_MO_rootOf 9 = .ok (.if_icmp .ge 30, 3) := by decide +kernel
theorem d_MO_rootOf_12 : decode b_MO_rootOf 12 = .ok (.aload_n 0, 1) := by decide +kernel
theorem d_MO_rootOf_13 : decode b_MO_rootOf 13 = .ok (.getfield 21, 3) := by decide +kernel
theorem d_MO_rootOf_16 : decode b_MO_rootOf 16 = .ok (.iload_n 3, 1) := by decide +kernel
theorem d_MO_rootOf_17 : decode b_MO_rootOf 17 = .ok (.iaload, 1) := by decide +kernel
theorem d_MO_rootOf_18 : decode b_MO_rootOf 18 = .ok (.iload_n 1, 1) := by decide +kernel
theorem d_MO_rootOf_19 : decode b_MO_rootOf 19 = .ok (.if_icmp .ne 12, 3) := by decide +kernel
theorem d_MO_rootOf_22 : decode b_MO_rootOf 22 = .ok (.aload_n 0, 1) := by decide +kernel
theorem d_MO_rootOf_23 : decode b_MO_rootOf 23 = .ok (.getfield 24, 3) := by decide +kernel
theorem d_MO_rootOf_26 : decode b_MO_rootOf 26 = .ok (.iload_n 3, 1) := by decide +kernel
theorem d_MO_rootOf_27 : decode b_MO_rootOf 27 = .ok (.iaload, 1) := by decide +kernel
theorem d_MO_rootOf_28 : decode b_MO_rootOf 28 = .ok (.goto 4, 3) := by decide +kernel
theorem d_MO_rootOf_31 : decode b_MO_rootOf 31 = .ok (.iload_n 2, 1) := by decide +kernel
theorem d_MO_rootOf_32 : decode b_MO_rootOf 32 = .ok (.istore_n 2, 1) := by decide +kernel
theorem d_MO_rootOf_33 : decode b_MO_rootOf 33 = .ok (.iinc 3 1, 3) := by decide +kernel
theorem d_MO_rootOf_36 : decode b_MO_rootOf 36 = .ok (.goto (-32), 3) := by decide +kernel
theorem d_MO_rootOf_39 : decode b_MO_rootOf 39 = .ok (.iload_n 2, 1) := by decide +kernel
theorem d_MO_rootOf_40 : decode b_MO_rootOf 40 = .ok (.ireturn, 1) := by decide +kernel
theorem d_MO_isKept_0 : decode b_MO_isKept 0 = .ok (.iload_n 1, 1) := by decide +kernel
theorem d_MO_isKept_1 : decode b_MO_isKept 1 = .ok (.ifCond .ne 18, 3) := by decide +kernel
theorem d_MO_isKept_4 : decode b_MO_isKept 4 = .ok (.aload_n 0, 1) := by decide +kernel
theorem d_MO_isKept_5 : decode b_MO_isKept 5 = .ok (.getfield 64, 3) := by decide +kernel
theorem d_MO_isKept_8 : decode b_MO_isKept 8 = .ok (.ifCond .ne 7, 3) := by decide +kernel
theorem d_MO_isKept_11 : decode b_MO_isKept 11 = .ok (.iconst 1, 1) := by decide +kernel
theorem d_MO_isKept_12 : decode b_MO_isKept 12 = .ok (.goto 20, 3) := by decide +kernel
theorem d_MO_isKept_15 : decode b_MO_isKept 15 = .ok (.iconst 0, 1) := by decide +kernel
theorem d_MO_isKept_16 : decode b_MO_isKept 16 = .ok (.goto 16, 3) := by decide +kernel
theorem d_MO_isKept_19 : decode b_MO_isKept 19 = .ok (.aload_n 0, 1) := by decide +kernel
theorem d_MO_isKept_20 : decode b_MO_isKept 20 = .ok (.iload_n 1, 1) := by decide +kernel
theorem d_MO_isKept_21 : decode b_MO_isKept 21 = .ok (.invokevirtual 119, 3) := by decide +kernel
theorem d_MO_isKept_24 : decode b_MO_isKept 24 = .ok (.ifCond .lt 7, 3) := by decide +kernel
theorem d_MO_isKept_27 : decode b_MO_isKept 27 = .ok (.iconst 1, 1) := by decide +kernel
theorem d_MO_isKept_28 : decode b_MO_isKept 28 = .ok (.goto 4, 3) := by decide +kernel
theorem d_MO_isKept_31 : decode b_MO_isKept 31 = .ok (.iconst 0, 1) := by decide +kernel
theorem d_MO_isKept_32 : decode b_MO_isKept 32 = .ok (.ireturn, 1) := by decide +kernel
theorem d_MO_look_0 : decode b_MO_look 0 = .ok (.iload_n 1, 1) := by decide +kernel
theorem d_MO_look_1 : decode b_MO_look 1 = .ok (.ifCond .ne 7, 3) := by decide +kernel
theorem d_MO_look_4 : decode b_MO_look 4 = .ok (.ldc2_w 122, 3) := by decide +kernel
theorem d_MO_look_7 : decode b_MO_look 7 = .ok (.lreturn, 1) := by decide +kernel
theorem d_MO_look_8 : decode b_MO_look 8 = .ok (.aload_n 0, 1) := by decide +kernel
theorem d_MO_look_9 : decode b_MO_look 9 = .ok (.iload_n 1, 1) := by decide +kernel
theorem d_MO_look_10 : decode b_MO_look 10 = .ok (.invokevirtual 119, 3) := by decide +kernel
theorem d_MO_look_13 : decode b_MO_look 13 = .ok (.istore_n 3, 1) := by decide +kernel
theorem d_MO_look_14 : decode b_MO_look 14 = .ok (.aload_n 0, 1) := by decide +kernel
theorem d_MO_look_15 : decode b_MO_look 15 = .ok (.iload_n 3, 1) := by decide +kernel
theorem d_MO_look_16 : decode b_MO_look 16 = .ok (.iconst 4, 1) := by decide +kernel
theorem d_MO_look_17 : decode b_MO_look 17 = .ok (.invokevirtual 124, 3) := by decide +kernel
theorem d_MO_look_20 : decode b_MO_look 20 = .ok (.ifCond .eq 7, 3) := by decide +kernel
theorem d_MO_look_23 : decode b_MO_look 23 = .ok (.ldc2_w 128, 3) := by decide +kernel
theorem d_MO_look_26 : decode b_MO_look 26 = .ok (.lreturn, 1) := by decide +kernel
theorem d_MO_look_27 : decode b_MO_look 27 = .ok (.aload_n 0, 1) := by decide +kernel
theorem d_MO_look_28 : decode b_MO_look 28 = .ok (.iload_n 3, 1) := by decide +kernel
theorem d_MO_look_29 : decode b_MO_look 29 = .ok (.invokevirtual 92, 3) := by decide +kernel
theorem d_MO_look_32 : decode b_MO_look 32 = .ok (.iconst 1, 1) := by decide +kernel
theorem d_MO_look_33 : decode b_MO_look 33 = .ok (.iand, 1) := by decide +kernel
theorem d_MO_look_34 : decode b_MO_look 34 = .ok (.ifCond .ne 7, 3) := by decide +kernel
theorem d_MO_look_37 : decode b_MO_look 37 = .ok (.ldc2_w 122, 3) := by decide +kernel
theorem d_MO_look_40 : decode b_MO_look 40 = .ok (.lreturn, 1) := by decide +kernel
theorem d_MO_look_41 : decode b_MO_look 41 = .ok (.aload_n 0, 1) := by decide +kernel
theorem d_MO_look_42 : decode b_MO_look 42 = .ok (.iload_n 3, 1) := by decide +kernel
theorem d_MO_look_43 : decode b_MO_look 43 = .ok (.iconst 0, 1) := by decide +kernel
theorem d_MO_look_44 : decode b_MO_look 44 = .ok (.invokevirtual 130, 3) := by decide +kernel
theorem d_MO_look_47 : decode b_MO_look 47 = .ok (.istore_n 3, 1) := by decide +kernel
theorem d_MO_look_48 : decode b_MO_look 48 = .ok (.iconst 3, 1) := by decide +kernel
theorem d_MO_look_49 : decode b_MO_look 49 = .ok (.istore 4, 2) := by decide +kernel
theorem d_MO_look_51 : decode b_MO_look 51 = .ok (.iload 4, 2) := by decide +kernel
theorem d_MO_look_53 : decode b_MO_look 53 = .ok (.iconst 1, 1) := by decide +kernel
theorem d_MO_look_54 : decode b_MO_look 54 = .ok (.if_icmp .lt 58, 3) := by decide +kernel
theorem d_MO_look_57 : decode b_MO_look 57 = .ok (.aload_n 0, 1) := by decide +kernel
theorem d_MO_look_58 : decode b_MO_look 58 = .ok (.iload_n 3, 1) := by decide +kernel
theorem d_MO_look_59 : decode b_MO_look 59 = .ok (.iload 4, 2) := by decide +kernel
theorem d_MO_look_61 : decode b_MO_look 61 = .ok (.invokevirtual 124, 3) := by decide +kernel
theorem d_MO_look_64 : decode b_MO_look 64 = .ok (.ifCond .eq 7, 3) := by decide +kernel
theorem d_MO_look_67 : decode b_MO_look 67 = .ok (.ldc2_w 128, 3) := by decide +kernel
theorem d_MO_look_70 : decode b_MO_look 70 = .ok (.lreturn, 1) := by decide +kernel
theorem d_MO_look_71 : decode b_MO_look 71 = .ok (.iload_n 2, 1) := by decide +kernel
theorem d_MO_look_72 : decode b_MO_look 72 = .ok (.iconst 3, 1) := by decide +kernel
theorem d_MO_look_73 : decode b_MO_look 73 = .ok (.iload 4, 2) := by decide +kernel
theorem d_MO_look_75 : decode b_MO_look 75 = .ok (.imul, 1) := by decide +kernel
theorem d_MO_look_76 : decode b_MO_look 76 = .ok (.iconst 3, 1) := by decide +kernel
theorem d_MO_look_77 : decode b_MO_look 77 = .ok (.isub, 1) := by decide +kernel
theorem d_MO_look_78 : decode b_MO_look 78 = .ok (.ishr, 1) := by decide +kernel
theorem d_MO_look_79 : decode b_MO_look 79 = .ok (.bipush 7, 2) := by decide +kernel
theorem d_MO_look_81 : decode b_MO_look 81 = .ok (.iand, 1) := by decide +kernel
theorem d_MO_look_82 : decode b_MO_look 82 = .ok (.istore 5, 2) := by decide +kernel
theorem d_MO_look_84 : decode b_MO_look 84 = .ok (.aload_n 0, 1) := by decide +kernel
theorem d_MO_look_85 : decode b_MO_look 85 = .ok (.iload_n 3, 1) := by decide +kernel
theorem d_MO_look_86 : decode b_MO_look 86 = .ok (.iload 5, 2) := by decide +kernel
theorem d_MO_look_88 : decode b_MO_look 88 = .ok (.invokevirtual 134, 3) := by decide +kernel
theorem d_MO_look_91 : decode b_MO_look 91 = .ok (.ifCond .ne 7, 3) := by decide +kernel
theorem d_MO_look_94 : decode b_MO_look 94 = .ok (.ldc2_w 122, 3) := by decide +kernel
theorem d_MO_look_97 : decode b_MO_look 97 = .ok (.lreturn, 1) := by decide +kernel
theorem d_MO_look_98 : decode b_MO_look 98 = .ok (.aload_n 0, 1) := by decide +kernel
theorem d_MO_look_99 : decode b_MO_look 99 = .ok (.iload_n 3, 1) := by decide +kernel
theorem d_MO_look_100 : decode b_MO_look 100 = .ok (.iload 5, 2) := by decide +kernel
theorem d_MO_look_102 : decode b_MO_look 102 = .ok (.invokevirtual 130, 3) := by decide +kernel
theorem d_MO_look_105 : decode b_MO_look 105 = .ok (.istore_n 3, 1) := by decide +kernel
theorem d_MO_look_106 : decode b_MO_look 106 = .ok (.iinc 4 (-1), 3) := by decide +kernel
theorem d_MO_look_109 : decode b_MO_look 109 = .ok (.goto (-58), 3) := by decide +kernel
theorem d_MO_look_112 : decode b_MO_look 112 = .ok (.iload_n 3, 1) := by decide +kernel
theorem d_MO_look_113 : decode b_MO_look 113 = .ok (.i2l, 1) := by decide +kernel
theorem d_MO_look_114 : decode b_MO_look 114 = .ok (.lreturn, 1) := by decide +kernel
theorem d_MO_get_0 : decode b_MO_get 0 = .ok (.aload_n 0, 1) := by decide +kernel
theorem d_MO_get_1 : decode b_MO_get 1 = .ok (.iload_n 1, 1) := by decide +kernel
theorem d_MO_get_2 : decode b_MO_get 2 = .ok (.invokestatic 98, 3) := by decide +kernel
theorem d_MO_get_5 : decode b_MO_get 5 = .ok (.invokevirtual 101, 3) := by decide +kernel
theorem d_MO_get_8 : decode b_MO_get 8 = .ok (.ifCond .ne 5, 3) := by decide +kernel
theorem d_MO_get_11 : decode b_MO_get 11 = .ok (.lconst 0, 1) := by decide +kernel
theorem d_MO_get_12 : decode b_MO_get 12 = .ok (.lreturn, 1) := by decide +kernel
theorem d_MO_get_13 : decode b_MO_get 13 = .ok (.aload_n 0, 1) := by decide +kernel
theorem d_MO_get_14 : decode b_MO_get 14 = .ok (.getfield 27, 3) := by decide +kernel
theorem d_MO_get_17 : decode b_MO_get 17 = .ok (.iload_n 1, 1) := by decide +kernel
theorem d_MO_get_18 : decode b_MO_get 18 = .ok (.iaload, 1) := by decide +kernel
theorem d_MO_get_19 : decode b_MO_get 19 = .ok (.iconst 1, 1) := by decide +kernel
theorem d_MO_get_20 : decode b_MO_get 20 = .ok (.if_icmp .ne 13, 3) := by decide +kernel
theorem d_MO_get_23 : decode b_MO_get 23 = .ok (.aload_n 0, 1) := by decide +kernel
theorem d_MO_get_24 : decode b_MO_get 24 = .ok (.getfield 30, 3) := by decide +kernel
theorem d_MO_get_27 : decode b_MO_get 27 = .ok (.iload_n 1, 1) := by decide +kernel
theorem d_MO_get_28 : decode b_MO_get 28 = .ok (.iaload, 1) := by decide +kernel
theorem d_MO_get_29 : decode b_MO_get 29 = .ok (.i2l, 1) := by decide +kernel
theorem d_MO_get_30 : decode b_MO_get 30 = .ok (.goto 28, 3) := by decide +kernel
theorem d_MO_get_33 : decode b_MO_get 33 = .ok (.aload_n 0, 1) := by decide +kernel
theorem d_MO_get_34 : decode b_MO_get 34 = .ok (.getfield 27, 3) := by decide +kernel
theorem d_MO_get_37 : decode b_MO_get 37 = .ok (.iload_n 1, 1) := by decide +kernel
theorem d_MO_get_38 : decode b_MO_get 38 = .ok (.iaload, 1) := by decide +kernel
theorem d_MO_get_39 : decode b_MO_get 39 = .ok (.iconst 2, 1) := by decide +kernel
theorem d_MO_get_40 : decode b_MO_get 40 = .ok (.if_icmp .ne 9, 3) := by decide +kernel
theorem d_MO_get_43 : decode b_MO_get 43 = .ok (.ldc2_w 122, 3) := by decide +kernel
theorem d_MO_get_46 : decode b_MO_get 46 = .ok (.goto 12, 3) := by decide +kernel
theorem d_MO_get_49 : decode b_MO_get 49 = .ok (.aload_n 0, 1) := by decide +kernel
theorem d_MO_get_50 : decode b_MO_get 50 = .ok (.aload_n 0, 1) := by decide +kernel
theorem d_MO_get_51 : decode b_MO_get 51 = .ok (.getfield 137, 3) := by decide +kernel
theorem d_MO_get_54 : decode b_MO_get 54 = .ok (.iload_n 1, 1) := by decide +kernel
theorem d_MO_get_55 : decode b_MO_get 55 = .ok (.invokevirtual 140, 3) := by decide +kernel
theorem d_MO_get_58 : decode b_MO_get 58 = .ok (.lreturn, 1) := by decide +kernel
theorem d_MO_find_0 : decode b_MO_find 0 = .ok (.aload_n 0, 1) := by decide +kernel
theorem d_MO_find_1 : decode b_MO_find 1 = .ok (.aload_n 0, 1) := by decide +kernel
theorem d_MO_find_2 : decode b_MO_find 2 = .ok (.iload_n 1, 1) := by decide +kernel
theorem d_MO_find_3 : decode b_MO_find 3 = .ok (.invokevirtual 144, 3) := by decide +kernel
theorem d_MO_find_6 : decode b_MO_find 6 = .ok (.ifCond .eq 14, 3) := by decide +kernel
theorem d_MO_find_9 : decode b_MO_find 9 = .ok (.iload_n 2, 1) := by decide +kernel
theorem d_MO_find_10 : decode b_MO_find 10 = .ok (.invokestatic 98, 3) := by decide +kernel
theorem d_MO_find_13 : decode b_MO_find 13 = .ok (.ifCond .eq 7, 3) := by decide +kernel
theorem d_MO_find_16 : decode b_MO_find 16 = .ok (.iconst 1, 1) := by decide +kernel
theorem d_MO_find_17 : decode b_MO_find 17 = .ok (.goto 4, 3) := by decide +kernel
theorem d_MO_find_20 : decode b_MO_find 20 = .ok (.iconst 0, 1) := by decide +kernel
theorem d_MO_find_21 : decode b_MO_find 21 = .ok (.invokevirtual 101, 3) := by decide +kernel
theorem d_MO_find_24 : decode b_MO_find 24 = .ok (.ifCond .eq 12, 3) := by decide +kernel
theorem d_MO_find_27 : decode b_MO_find 27 = .ok (.aload_n 0, 1) := by decide +kernel
theorem d_MO_find_28 : decode b_MO_find 28 = .ok (.iload_n 1, 1) := by decide +kernel
theorem d_MO_find_29 : decode b_MO_find 29 = .ok (.iload_n 2, 1) := by decide +kernel
theorem d_MO_find_30 : decode b_MO_find 30 = .ok (.invokevirtual 140, 3) := by decide +kernel
theorem d_MO_find_33 : decode b_MO_find 33 = .ok (.goto 4, 3) := by decide +kernel
theorem d_MO_find_36 : decode b_MO_find 36 = .ok (.lconst 0, 1) := by decide +kernel
theorem d_MO_find_37 : decode b_MO_find 37 = .ok (.lreturn, 1) := by decide +kernel
theorem d_MO_next_0 : decode b_MO_next 0 = .ok (.aload_n 0, 1) := by decide +kernel
theorem d_MO_next_1 : decode b_MO_next 1 = .ok (.aload_n 0, 1) := by decide +kernel
theorem d_MO_next_2 : decode b_MO_next 2 = .ok (.iload_n 1, 1) := by decide +kernel
theorem d_MO_next_3 : decode b_MO_next 3 = .ok (.invokevirtual 144, 3) := by decide +kernel
theorem d_MO_next_6 : decode b_MO_next 6 = .ok (.ifCond .eq 14, 3) := by decide +kernel
theorem d_MO_next_9 : decode b_MO_next 9 = .ok (.iload_n 2, 1) := by decide +kernel
theorem d_MO_next_10 : decode b_MO_next 10 = .ok (.invokestatic 98, 3) := by decide +kernel
theorem d_MO_next_13 : decode b_MO_next 13 = .ok (.ifCond .eq 7, 3) := by decide +kernel
theorem d_MO_next_16 : decode b_MO_next 16 = .ok (.iconst 1, 1) := by decide +kernel
theorem d_MO_next_17 : decode b_MO_next 17 = .ok (.goto 4, 3) := by decide +kernel
theorem d_MO_next_20 : decode b_MO_next 20 = .ok (.iconst 0, 1) := by decide +kernel
theorem d_MO_next_21 : decode b_MO_next 21 = .ok (.invokevirtual 101, 3) := by decide +kernel
theorem d_MO_next_24 : decode b_MO_next 24 = .ok (.ifCond .ne 5, 3) := by decide +kernel
theorem d_MO_next_27 : decode b_MO_next 27 = .ok (.iconst 0, 1) := by decide +kernel
theorem d_MO_next_28 : decode b_MO_next 28 = .ok (.ireturn, 1) := by decide +kernel
theorem d_MO_next_29 : decode b_MO_next 29 = .ok (.iload_n 2, 1) := by decide +kernel
theorem d_MO_next_30 : decode b_MO_next 30 = .ok (.istore_n 3, 1) := by decide +kernel
theorem d_MO_next_31 : decode b_MO_next 31 = .ok (.iload_n 3, 1) := by decide +kernel
theorem d_MO_next_32 : decode b_MO_next 32 = .ok (.sipush 512, 3) := by decide +kernel
theorem d_MO_next_35 : decode b_MO_next 35 = .ok (.if_icmp .ge 42, 3) := by decide +kernel
theorem d_MO_next_38 : decode b_MO_next 38 = .ok (.aload_n 0, 1) := by decide +kernel
theorem d_MO_next_39 : decode b_MO_next 39 = .ok (.iload_n 1, 1) := by decide +kernel
theorem d_MO_next_40 : decode b_MO_next 40 = .ok (.iload_n 3, 1) := by decide +kernel
theorem d_MO_next_41 : decode b_MO_next 41 = .ok (.invokevirtual 140, 3) := by decide +kernel
theorem d_MO_next_44 : decode b_MO_next 44 = .ok (.lstore 4, 2) := by decide +kernel
theorem d_MO_next_46 : decode b_MO_next 46 = .ok (.lload 4, 2) := by decide +kernel
theorem d_MO_next_48 : decode b_MO_next 48 = .ok (.ldc2_w 122, 3) := by decide +kernel
theorem d_MO_next_51 : decode b_MO_next 51 = .ok (.lcmp, 1) := by decide +kernel
theorem d_MO_next_52 : decode b_MO_next 52 = .ok (.ifCond .eq 19, 3) := by decide +kernel
theorem d_MO_next_55 : decode b_MO_next 55 = .ok (.lload 4, 2) := by decide +kernel
theorem d_MO_next_57 : decode b_MO_next 57 = .ok (.ldc2_w 128, 3) := by decide +kernel
theorem d_MO_next_60 : decode b_MO_next 60 = .ok (.lcmp, 1) := by decide +kernel
theorem d_MO_next_61 : decode b_MO_next 61 = .ok (.ifCond .ne 8, 3) := by decide +kernel
theorem d_MO_next_64 : decode b_MO_next 64 = .ok (.bipush (-2), 2) := by decide +kernel
theorem d_MO_next_66 : decode b_MO_next 66 = .ok (.goto 4, 3) := by decide +kernel
theorem d_MO_next_69 : decode b_MO_next 69 = .ok (.iload_n 3, 1) := by decide +kernel
theorem d_MO_next_70 : decode b_MO_next 70 = .ok (.ireturn, 1) := by decide +kernel
theorem d_MO_next_71 : decode b_MO_next 71 = .ok (.iinc 3 1, 3) := by decide +kernel
theorem d_MO_next_74 : decode b_MO_next 74 = .ok (.goto (-43), 3) := by decide +kernel
theorem d_MO_next_77 : decode b_MO_next 77 = .ok (.iconst (-1), 1) := by decide +kernel
theorem d_MO_next_78 : decode b_MO_next 78 = .ok (.ireturn, 1) := by decide +kernel
theorem d_MO_rows_0 : decode b_MO_rows 0 = .ok (.aload_n 0, 1) := by decide +kernel
theorem d_MO_rows_1 : decode b_MO_rows 1 = .ok (.aload_n 0, 1) := by decide +kernel
theorem d_MO_rows_2 : decode b_MO_rows 2 = .ok (.iload_n 1, 1) := by decide +kernel
theorem d_MO_rows_3 : decode b_MO_rows 3 = .ok (.invokevirtual 144, 3) := by decide +kernel
theorem d_MO_rows_6 : decode b_MO_rows 6 = .ok (.invokevirtual 101, 3) := by decide +kernel
theorem d_MO_rows_9 : decode b_MO_rows 9 = .ok (.ifCond .ne 5, 3) := by decide +kernel
theorem d_MO_rows_12 : decode b_MO_rows 12 = .ok (.iconst 0, 1) := by decide +kernel
theorem d_MO_rows_13 : decode b_MO_rows 13 = .ok (.ireturn, 1) := by decide +kernel
theorem d_MO_rows_14 : decode b_MO_rows 14 = .ok (.iload_n 1, 1) := by decide +kernel
theorem d_MO_rows_15 : decode b_MO_rows 15 = .ok (.ifCond .ne 5, 3) := by decide +kernel
theorem d_MO_rows_18 : decode b_MO_rows 18 = .ok (.iconst 0, 1) := by decide +kernel
theorem d_MO_rows_19 : decode b_MO_rows 19 = .ok (.ireturn, 1) := by decide +kernel
theorem d_MO_rows_20 : decode b_MO_rows 20 = .ok (.aload_n 0, 1) := by decide +kernel
theorem d_MO_rows_21 : decode b_MO_rows 21 = .ok (.iload_n 1, 1) := by decide +kernel
theorem d_MO_rows_22 : decode b_MO_rows 22 = .ok (.invokevirtual 119, 3) := by decide +kernel
theorem d_MO_rows_25 : decode b_MO_rows 25 = .ok (.istore_n 2, 1) := by decide +kernel
theorem d_MO_rows_26 : decode b_MO_rows 26 = .ok (.aload_n 0, 1) := by decide +kernel
theorem d_MO_rows_27 : decode b_MO_rows 27 = .ok (.iload_n 2, 1) := by decide +kernel
theorem d_MO_rows_28 : decode b_MO_rows 28 = .ok (.iconst 4, 1) := by decide +kernel
theorem d_MO_rows_29 : decode b_MO_rows 29 = .ok (.invokevirtual 124, 3) := by decide +kernel
theorem d_MO_rows_32 : decode b_MO_rows 32 = .ok (.ifCond .eq 8, 3) := by decide +kernel
theorem d_MO_rows_35 : decode b_MO_rows 35 = .ok (.bipush (-2), 2) := by decide +kernel
theorem d_MO_rows_37 : decode b_MO_rows 37 = .ok (.goto 9, 3) := by decide +kernel
theorem d_MO_rows_40 : decode b_MO_rows 40 = .ok (.aload_n 0, 1) := by decide +kernel
theorem d_MO_rows_41 : decode b_MO_rows 41 = .ok (.iload_n 2, 1) := by decide +kernel
theorem d_MO_rows_42 : decode b_MO_rows 42 = .ok (.iconst 1, 1) := by decide +kernel
theorem d_MO_rows_43 : decode b_MO_rows 43 = .ok (.invokevirtual 130, 3) := by decide +kernel
theorem d_MO_rows_46 : decode b_MO_rows 46 = .ok (.ireturn, 1) := by decide +kernel
theorem d_MO_kept_0 : decode b_MO_kept 0 = .ok (.aload_n 0, 1) := by decide +kernel
theorem d_MO_kept_1 : decode b_MO_kept 1 = .ok (.iload_n 1, 1) := by decide +kernel
theorem d_MO_kept_2 : decode b_MO_kept 2 = .ok (.ifCond .lt 7, 3) := by decide +kernel
theorem d_MO_kept_5 : decode b_MO_kept 5 = .ok (.iconst 1, 1) := by decide +kernel
theorem d_MO_kept_6 : decode b_MO_kept 6 = .ok (.goto 4, 3) := by decide +kernel
theorem d_MO_kept_9 : decode b_MO_kept 9 = .ok (.iconst 0, 1) := by decide +kernel
theorem d_MO_kept_10 : decode b_MO_kept 10 = .ok (.invokevirtual 101, 3) := by decide +kernel
theorem d_MO_kept_13 : decode b_MO_kept 13 = .ok (.ifCond .ne 5, 3) := by decide +kernel
theorem d_MO_kept_16 : decode b_MO_kept 16 = .ok (.iconst 0, 1) := by decide +kernel
theorem d_MO_kept_17 : decode b_MO_kept 17 = .ok (.ireturn, 1) := by decide +kernel
theorem d_MO_kept_18 : decode b_MO_kept 18 = .ok (.iload_n 1, 1) := by decide +kernel
theorem d_MO_kept_19 : decode b_MO_kept 19 = .ok (.aload_n 0, 1) := by decide +kernel
theorem d_MO_kept_20 : decode b_MO_kept 20 = .ok (.getfield 116, 3) := by decide +kernel
theorem d_MO_kept_23 : decode b_MO_kept 23 = .ok (.if_icmp .ge 19, 3) := by decide +kernel
theorem d_MO_kept_26 : decode b_MO_kept 26 = .ok (.aload_n 0, 1) := by decide +kernel
theorem d_MO_kept_27 : decode b_MO_kept 27 = .ok (.getfield 21, 3) := by decide +kernel
theorem d_MO_kept_30 : decode b_MO_kept 30 = .ok (.aload_n 0, 1) := by decide +kernel
theorem d_MO_kept_31 : decode b_MO_kept 31 = .ok (.getfield 116, 3) := by decide +kernel
theorem d_MO_kept_34 : decode b_MO_kept 34 = .ok (.iconst 1, 1) := by decide +kernel
theorem d_MO_kept_35 : decode b_MO_kept 35 = .ok (.isub, 1) := by decide +kernel
theorem d_MO_kept_36 : decode b_MO_kept 36 = .ok (.iload_n 1, 1) := by decide +kernel
theorem d_MO_kept_37 : decode b_MO_kept 37 = .ok (.isub, 1) := by decide +kernel
theorem d_MO_kept_38 : decode b_MO_kept 38 = .ok (.iaload, 1) := by decide +kernel
theorem d_MO_kept_39 : decode b_MO_kept 39 = .ok (.goto 23, 3) := by decide +kernel
theorem d_MO_kept_42 : decode b_MO_kept 42 = .ok (.iload_n 1, 1) := by decide +kernel
theorem d_MO_kept_43 : decode b_MO_kept 43 = .ok (.aload_n 0, 1) := by decide +kernel
theorem d_MO_kept_44 : decode b_MO_kept 44 = .ok (.getfield 116, 3) := by decide +kernel
theorem d_MO_kept_47 : decode b_MO_kept 47 = .ok (.if_icmp .ne 14, 3) := by decide +kernel
theorem d_MO_kept_50 : decode b_MO_kept 50 = .ok (.aload_n 0, 1) := by decide +kernel
theorem d_MO_kept_51 : decode b_MO_kept 51 = .ok (.getfield 64, 3) := by decide +kernel
theorem d_MO_kept_54 : decode b_MO_kept 54 = .ok (.ifCond .ne 7, 3) := by decide +kernel
theorem d_MO_kept_57 : decode b_MO_kept 57 = .ok (.iconst 0, 1) := by decide +kernel
theorem d_MO_kept_58 : decode b_MO_kept 58 = .ok (.goto 4, 3) := by decide +kernel
theorem d_MO_kept_61 : decode b_MO_kept 61 = .ok (.iconst (-1), 1) := by decide +kernel
theorem d_MO_kept_62 : decode b_MO_kept 62 = .ok (.ireturn, 1) := by decide +kernel
theorem d_MO_write_0 : decode b_MO_write 0 = .ok (.aload_n 0, 1) := by decide +kernel
theorem d_MO_write_1 : decode b_MO_write 1 = .ok (.getfield 7, 3) := by decide +kernel
theorem d_MO_write_4 : decode b_MO_write 4 = .ok (.iload_n 1, 1) := by decide +kernel
theorem d_MO_write_5 : decode b_MO_write 5 = .ok (.iload_n 2, 1) := by decide +kernel
theorem d_MO_write_6 : decode b_MO_write 6 = .ok (.iastore, 1) := by decide +kernel
theorem d_MO_write_7 : decode b_MO_write 7 = .ok (.aload_n 0, 1) := by decide +kernel
theorem d_MO_write_8 : decode b_MO_write 8 = .ok (.dup, 1) := by decide +kernel
theorem d_MO_write_9 : decode b_MO_write 9 = .ok (.getfield 147, 3) := by decide +kernel
theorem d_MO_write_12 : decode b_MO_write 12 = .ok (.iconst 1, 1) := by decide +kernel
theorem d_MO_write_13 : decode b_MO_write 13 = .ok (.iadd, 1) := by decide +kernel
theorem d_MO_write_14 : decode b_MO_write 14 = .ok (.putfield 147, 3) := by decide +kernel
theorem d_MO_write_17 : decode b_MO_write 17 = .ok (.aload_n 0, 1) := by decide +kernel
theorem d_MO_write_18 : decode b_MO_write 18 = .ok (.aload_n 0, 1) := by decide +kernel
theorem d_MO_write_19 : decode b_MO_write 19 = .ok (.getfield 17, 3) := by decide +kernel
theorem d_MO_write_22 : decode b_MO_write 22 = .ok (.ifCond .le 12, 3) := by decide +kernel
theorem d_MO_write_25 : decode b_MO_write 25 = .ok (.aload_n 0, 1) := by decide +kernel
theorem d_MO_write_26 : decode b_MO_write 26 = .ok (.getfield 17, 3) := by decide +kernel
theorem d_MO_write_29 : decode b_MO_write 29 = .ok (.iconst 1, 1) := by decide +kernel
theorem d_MO_write_30 : decode b_MO_write 30 = .ok (.isub, 1) := by decide +kernel
theorem d_MO_write_31 : decode b_MO_write 31 = .ok (.goto 7, 3) := by decide +kernel
theorem d_MO_write_34 : decode b_MO_write 34 = .ok (.aload_n 0, 1) := by decide +kernel
theorem d_MO_write_35 : decode b_MO_write 35 = .ok (.getfield 17, 3) := by decide +kernel
theorem d_MO_write_38 : decode b_MO_write 38 = .ok (.putfield 17, 3) := by decide +kernel
theorem d_MO_write_41 : decode b_MO_write 41 = .ok (.aload_n 0, 1) := by decide +kernel
theorem d_MO_write_42 : decode b_MO_write 42 = .ok (.aload_n 0, 1) := by decide +kernel
theorem d_MO_write_43 : decode b_MO_write 43 = .ok (.getfield 17, 3) := by decide +kernel
theorem d_MO_write_46 : decode b_MO_write 46 = .ok (.ifCond .ne 7, 3) := by decide +kernel
theorem d_MO_write_49 : decode b_MO_write 49 = .ok (.iconst 1, 1) := by decide +kernel
theorem d_MO_write_50 : decode b_MO_write 50 = .ok (.goto 4, 3) := by decide +kernel
theorem d_MO_write_53 : decode b_MO_write 53 = .ok (.iconst 0, 1) := by decide +kernel
theorem d_MO_write_54 : decode b_MO_write 54 = .ok (.putfield 60, 3) := by decide +kernel
theorem d_MO_write_57 : decode b_MO_write 57 = .ok (.aload_n 0, 1) := by decide +kernel
theorem d_MO_write_58 : decode b_MO_write 58 = .ok (.getfield 60, 3) := by decide +kernel
theorem d_MO_write_61 : decode b_MO_write 61 = .ok (.ifCond .ne 7, 3) := by decide +kernel
theorem d_MO_write_64 : decode b_MO_write 64 = .ok (.iconst 1, 1) := by decide +kernel
theorem d_MO_write_65 : decode b_MO_write 65 = .ok (.goto 4, 3) := by decide +kernel
theorem d_MO_write_68 : decode b_MO_write 68 = .ok (.iconst 0, 1) := by decide +kernel
theorem d_MO_write_69 : decode b_MO_write 69 = .ok (.ireturn, 1) := by decide +kernel
theorem d_MO_begin_0 : decode b_MO_begin 0 = .ok (.iconst 0, 1) := by decide +kernel
theorem d_MO_begin_1 : decode b_MO_begin 1 = .ok (.istore_n 3, 1) := by decide +kernel
theorem d_MO_begin_2 : decode b_MO_begin 2 = .ok (.iload_n 3, 1) := by decide +kernel
theorem d_MO_begin_3 : decode b_MO_begin 3 = .ok (.bipush 64, 2) := by decide +kernel
theorem d_MO_begin_5 : decode b_MO_begin 5 = .ok (.if_icmp .ge 16, 3) := by decide +kernel
theorem d_MO_begin_8 : decode b_MO_begin 8 = .ok (.aload_n 0, 1) := by decide +kernel
theorem d_MO_begin_9 : decode b_MO_begin 9 = .ok (.getfield 51, 3) := by decide +kernel
theorem d_MO_begin_12 : decode b_MO_begin 12 = .ok (.iload_n 3, 1) := by decide +kernel
theorem d_MO_begin_13 : decode b_MO_begin 13 = .ok (.iconst 0, 1) := by decide +kernel
theorem d_MO_begin_14 : decode b_MO_begin 14 = .ok (.iastore, 1) := by decide +kernel
theorem d_MO_begin_15 : decode b_MO_begin 15 = .ok (.iinc 3 1, 3) := by decide +kernel
theorem d_MO_begin_18 : decode b_MO_begin 18 = .ok (.goto (-16), 3) := by decide +kernel
theorem d_MO_begin_21 : decode b_MO_begin 21 = .ok (.aload_n 0, 1) := by decide +kernel
theorem d_MO_begin_22 : decode b_MO_begin 22 = .ok (.getfield 51, 3) := by decide +kernel
theorem d_MO_begin_25 : decode b_MO_begin 25 = .ok (.iconst 0, 1) := by decide +kernel
theorem d_MO_begin_26 : decode b_MO_begin 26 = .ok (.iload_n 1, 1) := by decide +kernel
theorem d_MO_begin_27 : decode b_MO_begin 27 = .ok (.iastore, 1) := by decide +kernel
theorem d_MO_begin_28 : decode b_MO_begin 28 = .ok (.aload_n 0, 1) := by decide +kernel
theorem d_MO_begin_29 : decode b_MO_begin 29 = .ok (.getfield 51, 3) := by decide +kernel
theorem d_MO_begin_32 : decode b_MO_begin 32 = .ok (.iconst 1, 1) := by decide +kernel
theorem d_MO_begin_33 : decode b_MO_begin 33 = .ok (.iload_n 2, 1) := by decide +kernel
theorem d_MO_begin_34 : decode b_MO_begin 34 = .ok (.iastore, 1) := by decide +kernel
theorem d_MO_begin_35 : decode b_MO_begin 35 = .ok (.aload_n 0, 1) := by decide +kernel
theorem d_MO_begin_36 : decode b_MO_begin 36 = .ok (.iconst 4, 1) := by decide +kernel
theorem d_MO_begin_37 : decode b_MO_begin 37 = .ok (.aload_n 0, 1) := by decide +kernel
theorem d_MO_begin_38 : decode b_MO_begin 38 = .ok (.getfield 137, 3) := by decide +kernel
theorem d_MO_begin_41 : decode b_MO_begin 41 = .ok (.iconst 1, 1) := by decide +kernel
theorem d_MO_begin_42 : decode b_MO_begin 42 = .ok (.iadd, 1) := by decide +kernel
theorem d_MO_begin_43 : decode b_MO_begin 43 = .ok (.invokevirtual 150, 3) := by decide +kernel
theorem d_MO_begin_46 : decode b_MO_begin 46 = .ok (.aload_n 0, 1) := by decide +kernel
theorem d_MO_begin_47 : decode b_MO_begin 47 = .ok (.bipush 40, 2) := by decide +kernel
theorem d_MO_begin_49 : decode b_MO_begin 49 = .ok (.aload_n 0, 1) := by decide +kernel
theorem d_MO_begin_50 : decode b_MO_begin 50 = .ok (.getfield 154, 3) := by decide +kernel
theorem d_MO_begin_53 : decode b_MO_begin 53 = .ok (.invokevirtual 150, 3) := by decide +kernel
theorem d_MO_begin_56 : decode b_MO_begin 56 = .ok (.return_, 1) := by decide +kernel
theorem d_MO_putNumber_0 : decode b_MO_putNumber 0 = .ok (.iconst 0, 1) := by decide +kernel
theorem d_MO_putNumber_1 : decode b_MO_putNumber 1 = .ok (.istore_n 3, 1) := by decide +kernel
theorem d_MO_putNumber_2 : decode b_MO_putNumber 2 = .ok (.iload_n 3, 1) := by decide +kernel
theorem d_MO_putNumber_3 : decode b_MO_putNumber 3 = .ok (.iconst 4, 1) := by decide +kernel
theorem d_MO_putNumber_4 : decode b_MO_putNumber 4 = .ok (.if_icmp .ge 30, 3) := by decide +kernel
theorem d_MO_putNumber_7 : decode b_MO_putNumber 7 = .ok (.aload_n 0, 1) := by decide +kernel
theorem d_MO_putNumber_8 : decode b_MO_putNumber 8 = .ok (.getfield 51, 3) := by decide +kernel
theorem d_MO_putNumber_11 : decode b_MO_putNumber 11 = .ok (.iload_n 1, 1) := by decide +kernel
theorem d_MO_putNumber_12 : decode b_MO_putNumber 12 = .ok (.iload_n 3, 1) := by decide +kernel
theorem d_MO_putNumber_13 : decode b_MO_putNumber 13 = .ok (.iadd, 1) := by decide +kernel
theorem d_MO_putNumber_14 : decode b_MO_putNumber 14 = .ok (.iload_n 2, 1) := by decide +kernel
theorem d_MO_putNumber_15 : decode b_MO_putNumber 15 = .ok (.bipush 24, 2) := by decide +kernel
theorem d_MO_putNumber_17 : decode b_MO_putNumber 17 = .ok (.bipush 8, 2) := by decide +kernel
theorem d_MO_putNumber_19 : decode b_MO_putNumber 19 = .ok (.iload_n 3, 1) := by decide +kernel
theorem d_MO_putNumber_20 : decode b_MO_putNumber 20 = .ok (.imul, 1) := by decide +kernel
theorem d_MO_putNumber_21 : decode b_MO_putNumber 21 = .ok (.isub, 1) := by decide +kernel
theorem d_MO_putNumber_22 : decode b_MO_putNumber 22 = .ok (.ishr, 1) := by decide +kernel
theorem d_MO_putNumber_23 : decode b_MO_putNumber 23 = .ok (.sipush 255, 3) := by decide +kernel
theorem d_MO_putNumber_26 : decode b_MO_putNumber 26 = .ok (.iand, 1) := by decide +kernel
theorem d_MO_putNumber_27 : decode b_MO_putNumber 27 = .ok (.iastore, 1) := by decide +kernel
theorem d_MO_putNumber_28 : decode b_MO_putNumber 28 = .ok (.iinc 3 1, 3) := by decide +kernel
theorem d_MO_putNumber_31 : decode b_MO_putNumber 31 = .ok (.goto (-29), 3) := by decide +kernel
theorem d_MO_putNumber_34 : decode b_MO_putNumber 34 = .ok (.return_, 1) := by decide +kernel
theorem d_MO_finish_0 : decode b_MO_finish 0 = .ok (.lconst 0, 1) := by decide +kernel
theorem d_MO_finish_1 : decode b_MO_finish 1 = .ok (.lstore_n 1, 1) := by decide +kernel
theorem d_MO_finish_2 : decode b_MO_finish 2 = .ok (.iconst 0, 1) := by decide +kernel
theorem d_MO_finish_3 : decode b_MO_finish 3 = .ok (.istore_n 3, 1) := by decide +kernel
theorem d_MO_finish_4 : decode b_MO_finish 4 = .ok (.iload_n 3, 1) := by decide +kernel
theorem d_MO_finish_5 : decode b_MO_finish 5 = .ok (.bipush 56, 2) := by decide +kernel
theorem d_MO_finish_7 : decode b_MO_finish 7 = .ok (.if_icmp .ge 20, 3) := by decide +kernel
theorem d_MO_finish_10 : decode b_MO_finish 10 = .ok (.lload_n 1, 1) := by decide +kernel
theorem d_MO_finish_11 : decode b_MO_finish 11 = .ok (.aload_n 0, 1) := by decide +kernel
theorem d_MO_finish_12 : decode b_MO_finish 12 = .ok (.getfield 51, 3) := by decide +kernel
theorem d_MO_finish_15 : decode b_MO_finish 15 = .ok (.iload_n 3, 1) := by decide +kernel
theorem d_MO_finish_16 : decode b_MO_finish 16 = .ok (.iaload, 1) := by decide +kernel
theorem d_MO_finish_17 : decode b_MO_finish 17 = .ok (.invokestatic 72, 3) := by decide +kernel
theorem d_MO_finish_20 : decode b_MO_finish 20 = .ok (.lstore_n 1, 1) := by decide +kernel
theorem d_MO_finish_21 : decode b_MO_finish 21 = .ok (.iinc 3 1, 3) := by decide +kernel
theorem d_MO_finish_24 : decode b_MO_finish 24 = .ok (.goto (-20), 3) := by decide +kernel
theorem d_MO_finish_27 : decode b_MO_finish 27 = .ok (.iconst 0, 1) := by decide +kernel
theorem d_MO_finish_28 : decode b_MO_finish 28 = .ok (.istore_n 3, 1) := by decide +kernel
theorem d_MO_finish_29 : decode b_MO_finish 29 = .ok (.iload_n 3, 1) := by decide +kernel
theorem d_MO_finish_30 : decode b_MO_finish 30 = .ok (.bipush 8, 2) := by decide +kernel
theorem d_MO_finish_32 : decode b_MO_finish 32 = .ok (.if_icmp .ge 32, 3) := by decide +kernel
theorem d_MO_finish_35 : decode b_MO_finish 35 = .ok (.aload_n 0, 1) := by decide +kernel
theorem d_MO_finish_36 : decode b_MO_finish 36 = .ok (.getfield 51, 3) := by decide +kernel
theorem d_MO_finish_39 : decode b_MO_finish 39 = .ok (.bipush 56, 2) := by decide +kernel
theorem d_MO_finish_41 : decode b_MO_finish 41 = .ok (.iload_n 3, 1) := by decide +kernel
theorem d_MO_finish_42 : decode b_MO_finish 42 = .ok (.iadd, 1) := by decide +kernel
theorem d_MO_finish_43 : decode b_MO_finish 43 = .ok (.lload_n 1, 1) := by decide +kernel
theorem d_MO_finish_44 : decode b_MO_finish 44 = .ok (.bipush 56, 2) := by decide +kernel
theorem d_MO_finish_46 : decode b_MO_finish 46 = .ok (.bipush 8, 2) := by decide +kernel
theorem d_MO_finish_48 : decode b_MO_finish 48 = .ok (.iload_n 3, 1) := by decide +kernel
theorem d_MO_finish_49 : decode b_MO_finish 49 = .ok (.imul, 1) := by decide +kernel
theorem d_MO_finish_50 : decode b_MO_finish 50 = .ok (.isub, 1) := by decide +kernel
theorem d_MO_finish_51 : decode b_MO_finish 51 = .ok (.lushr, 1) := by decide +kernel
theorem d_MO_finish_52 : decode b_MO_finish 52 = .ok (.ldc2_w 76, 3) := by decide +kernel
theorem d_MO_finish_55 : decode b_MO_finish 55 = .ok (.land, 1) := by decide +kernel
theorem d_MO_finish_56 : decode b_MO_finish 56 = .ok (.l2i, 1) := by decide +kernel
theorem d_MO_finish_57 : decode b_MO_finish 57 = .ok (.iastore, 1) := by decide +kernel
theorem d_MO_finish_58 : decode b_MO_finish 58 = .ok (.iinc 3 1, 3) := by decide +kernel
theorem d_MO_finish_61 : decode b_MO_finish 61 = .ok (.goto (-32), 3) := by decide +kernel
theorem d_MO_finish_64 : decode b_MO_finish 64 = .ok (.aload_n 0, 1) := by decide +kernel
theorem d_MO_finish_65 : decode b_MO_finish 65 = .ok (.aload_n 0, 1) := by decide +kernel
theorem d_MO_finish_66 : decode b_MO_finish 66 = .ok (.getfield 154, 3) := by decide +kernel
theorem d_MO_finish_69 : decode b_MO_finish 69 = .ok (.invokevirtual 82, 3) := by decide +kernel
theorem d_MO_finish_72 : decode b_MO_finish 72 = .ok (.istore_n 3, 1) := by decide +kernel
theorem d_MO_finish_73 : decode b_MO_finish 73 = .ok (.iconst 1, 1) := by decide +kernel
theorem d_MO_finish_74 : decode b_MO_finish 74 = .ok (.istore 4, 2) := by decide +kernel
theorem d_MO_finish_76 : decode b_MO_finish 76 = .ok (.iconst 0, 1) := by decide +kernel
theorem d_MO_finish_77 : decode b_MO_finish 77 = .ok (.istore 5, 2) := by decide +kernel
theorem d_MO_finish_79 : decode b_MO_finish 79 = .ok (.iload 5, 2) := by decide +kernel
theorem d_MO_finish_81 : decode b_MO_finish 81 = .ok (.bipush 64, 2) := by decide +kernel
theorem d_MO_finish_83 : decode b_MO_finish 83 = .ok (.if_icmp .ge 52, 3) := by decide +kernel
theorem d_MO_finish_86 : decode b_MO_finish 86 = .ok (.iload 4, 2) := by decide +kernel
theorem d_MO_finish_88 : decode b_MO_finish 88 = .ok (.ifCond .eq 47, 3) := by decide +kernel
theorem d_MO_finish_91 : decode b_MO_finish 91 = .ok (.aload_n 0, 1) := by decide +kernel
theorem d_MO_finish_92 : decode b_MO_finish 92 = .ok (.iload_n 3, 1) := by decide +kernel
theorem d_MO_finish_93 : decode b_MO_finish 93 = .ok (.iload 5, 2) := by decide +kernel
theorem d_MO_finish_95 : decode b_MO_finish 95 = .ok (.iadd, 1) := by decide +kernel
theorem d_MO_finish_96 : decode b_MO_finish 96 = .ok (.aload_n 0, 1) := by decide +kernel
theorem d_MO_finish_97 : decode b_MO_finish 97 = .ok (.getfield 51, 3) := by decide +kernel
theorem d_MO_finish_100 : decode b_MO_finish 100 = .ok (.iload 5, 2) := by decide +kernel
theorem d_MO_finish_102 : decode b_MO_finish 102 = .ok (.iaload, 1) := by decide +kernel
theorem d_MO_finish_103 : decode b_MO_finish 103 = .ok (.invokevirtual 157, 3) := by decide +kernel
theorem d_MO_finish_106 : decode b_MO_finish 106 = .ok (.istore 4, 2) := by decide +kernel
theorem d_MO_finish_108 : decode b_MO_finish 108 = .ok (.aload_n 0, 1) := by decide +kernel
theorem d_MO_finish_109 : decode b_MO_finish 109 = .ok (.getfield 13, 3) := by decide +kernel
theorem d_MO_finish_112 : decode b_MO_finish 112 = .ok (.iload_n 3, 1) := by decide +kernel
theorem d_MO_finish_113 : decode b_MO_finish 113 = .ok (.bipush 64, 2) := by decide +kernel
theorem d_MO_finish_115 : decode b_MO_finish 115 = .ok (.idiv, 1) := by decide +kernel
theorem d_MO_finish_116 : decode b_MO_finish 116 = .ok (.iload 5, 2) := by decide +kernel
theorem d_MO_finish_118 : decode b_MO_finish 118 = .ok (.bipush 63, 2) := by decide +kernel
theorem d_MO_finish_120 : decode b_MO_finish 120 = .ok (.if_icmp .ge 7, 3) := by decide +kernel
theorem d_MO_finish_123 : decode b_MO_finish 123 = .ok (.iconst 1, 1) := by decide +kernel
theorem d_MO_finish_124 : decode b_MO_finish 124 = .ok (.goto 4, 3) := by decide +kernel
theorem d_MO_finish_127 : decode b_MO_finish 127 = .ok (.iconst 0, 1) := by decide +kernel
theorem d_MO_finish_128 : decode b_MO_finish 128 = .ok (.bastore, 1) := by decide +kernel
theorem d_MO_finish_129 : decode b_MO_finish 129 = .ok (.iinc 5 1, 3) := by decide +kernel
theorem d_MO_finish_132 : decode b_MO_finish 132 = .ok (.goto (-53), 3) := by decide +kernel
theorem d_MO_finish_135 : decode b_MO_finish 135 = .ok (.aload_n 0, 1) := by decide +kernel
theorem d_MO_finish_136 : decode b_MO_finish 136 = .ok (.dup, 1) := by decide +kernel
theorem d_MO_finish_137 : decode b_MO_finish 137 = .ok (.getfield 154, 3) := by decide +kernel
theorem d_MO_finish_140 : decode b_MO_finish 140 = .ok (.iconst 1, 1) := by decide +kernel
theorem d_MO_finish_141 : decode b_MO_finish 141 = .ok (.iadd, 1) := by decide +kernel
theorem d_MO_finish_142 : decode b_MO_finish 142 = .ok (.putfield 154, 3) := by decide +kernel
theorem d_MO_finish_145 : decode b_MO_finish 145 = .ok (.iload 4, 2) := by decide +kernel
theorem d_MO_finish_147 : decode b_MO_finish 147 = .ok (.ireturn, 1) := by decide +kernel
theorem d_MO_readLeaf_0 : decode b_MO_readLeaf 0 = .ok (.aload_n 0, 1) := by decide +kernel
theorem d_MO_readLeaf_1 : decode b_MO_readLeaf 1 = .ok (.iload_n 2, 1) := by decide +kernel
theorem d_MO_readLeaf_2 : decode b_MO_readLeaf 2 = .ok (.iconst 1, 1) := by decide +kernel
theorem d_MO_readLeaf_3 : decode b_MO_readLeaf 3 = .ok (.invokevirtual 124, 3) := by decide +kernel
theorem d_MO_readLeaf_6 : decode b_MO_readLeaf 6 = .ok (.ifCond .eq 5, 3) := by decide +kernel
theorem d_MO_readLeaf_9 : decode b_MO_readLeaf 9 = .ok (.iconst 0, 1) := by decide +kernel
theorem d_MO_readLeaf_10 : decode b_MO_readLeaf 10 = .ok (.ireturn, 1) := by decide +kernel
theorem d_MO_readLeaf_11 : decode b_MO_readLeaf 11 = .ok (.aload_n 0, 1) := by decide +kernel
theorem d_MO_readLeaf_12 : decode b_MO_readLeaf 12 = .ok (.getfield 36, 3) := by decide +kernel
theorem d_MO_readLeaf_15 : decode b_MO_readLeaf 15 = .ok (.iload_n 1, 1) := by decide +kernel
theorem d_MO_readLeaf_16 : decode b_MO_readLeaf 16 = .ok (.aload_n 0, 1) := by decide +kernel
theorem d_MO_readLeaf_17 : decode b_MO_readLeaf 17 = .ok (.iload_n 2, 1) := by decide +kernel
theorem d_MO_readLeaf_18 : decode b_MO_readLeaf 18 = .ok (.invokevirtual 92, 3) := by decide +kernel
theorem d_MO_readLeaf_21 : decode b_MO_readLeaf 21 = .ok (.iastore, 1) := by decide +kernel
theorem d_MO_readLeaf_22 : decode b_MO_readLeaf 22 = .ok (.iconst 0, 1) := by decide +kernel
theorem d_MO_readLeaf_23 : decode b_MO_readLeaf 23 = .ok (.istore_n 3, 1) := by decide +kernel
theorem d_MO_readLeaf_24 : decode b_MO_readLeaf 24 = .ok (.iload_n 3, 1) := by decide +kernel
theorem d_MO_readLeaf_25 : decode b_MO_readLeaf 25 = .ok (.bipush 8, 2) := by decide +kernel
theorem d_MO_readLeaf_27 : decode b_MO_readLeaf 27 = .ok (.if_icmp .ge 39, 3) := by decide +kernel
theorem d_MO_readLeaf_30 : decode b_MO_readLeaf 30 = .ok (.aload_n 0, 1) := by decide +kernel
theorem d_MO_readLeaf_31 : decode b_MO_readLeaf 31 = .ok (.getfield 39, 3) := by decide +kernel
theorem d_MO_readLeaf_34 : decode b_MO_readLeaf 34 = .ok (.bipush 8, 2) := by decide +kernel
theorem d_MO_readLeaf_36 : decode b_MO_readLeaf 36 = .ok (.iload_n 1, 1) := by decide +kernel
theorem d_MO_readLeaf_37 : decode b_MO_readLeaf 37 = .ok (.imul, 1) := by decide +kernel
theorem d_MO_readLeaf_38 : decode b_MO_readLeaf 38 = .ok (.iload_n 3, 1) := by decide +kernel
theorem d_MO_readLeaf_39 : decode b_MO_readLeaf 39 = .ok (.iadd, 1) := by decide +kernel
theorem d_MO_readLeaf_40 : decode b_MO_readLeaf 40 = .ok (.aload_n 0, 1) := by decide +kernel
theorem d_MO_readLeaf_41 : decode b_MO_readLeaf 41 = .ok (.iload_n 2, 1) := by decide +kernel
theorem d_MO_readLeaf_42 : decode b_MO_readLeaf 42 = .ok (.iload_n 3, 1) := by decide +kernel
theorem d_MO_readLeaf_43 : decode b_MO_readLeaf 43 = .ok (.invokevirtual 134, 3) := by decide +kernel
theorem d_MO_readLeaf_46 : decode b_MO_readLeaf 46 = .ok (.ifCond .eq 12, 3) := by decide +kernel
theorem d_MO_readLeaf_49 : decode b_MO_readLeaf 49 = .ok (.aload_n 0, 1) := by decide +kernel
theorem d_MO_readLeaf_50 : decode b_MO_readLeaf 50 = .ok (.iload_n 2, 1) := by decide +kernel
theorem d_MO_readLeaf_51 : decode b_MO_readLeaf 51 = .ok (.iload_n 3, 1) := by decide +kernel
theorem d_MO_readLeaf_52 : decode b_MO_readLeaf 52 = .ok (.invokevirtual 130, 3) := by decide +kernel
theorem d_MO_readLeaf_55 : decode b_MO_readLeaf 55 = .ok (.goto 4, 3) := by decide +kernel
theorem d_MO_readLeaf_58 : decode b_MO_readLeaf 58 = .ok (.iconst 0, 1) := by decide +kernel
theorem d_MO_readLeaf_59 : decode b_MO_readLeaf 59 = .ok (.iastore, 1) := by decide +kernel
theorem d_MO_readLeaf_60 : decode b_MO_readLeaf 60 = .ok (.iinc 3 1, 3) := by decide +kernel
theorem d_MO_readLeaf_63 : decode b_MO_readLeaf 63 = .ok (.goto (-39), 3) := by decide +kernel
theorem d_MO_readLeaf_66 : decode b_MO_readLeaf 66 = .ok (.iconst 1, 1) := by decide +kernel
theorem d_MO_readLeaf_67 : decode b_MO_readLeaf 67 = .ok (.ireturn, 1) := by decide +kernel
theorem d_MO_readNode_0 : decode b_MO_readNode 0 = .ok (.aload_n 0, 1) := by decide +kernel
theorem d_MO_readNode_1 : decode b_MO_readNode 1 = .ok (.getfield 42, 3) := by decide +kernel
theorem d_MO_readNode_4 : decode b_MO_readNode 4 = .ok (.iload_n 1, 1) := by decide +kernel
theorem d_MO_readNode_5 : decode b_MO_readNode 5 = .ok (.iconst 0, 1) := by decide +kernel
theorem d_MO_readNode_6 : decode b_MO_readNode 6 = .ok (.iastore, 1) := by decide +kernel
theorem d_MO_readNode_7 : decode b_MO_readNode 7 = .ok (.iconst 0, 1) := by decide +kernel
theorem d_MO_readNode_8 : decode b_MO_readNode 8 = .ok (.istore_n 2, 1) := by decide +kernel
theorem d_MO_readNode_9 : decode b_MO_readNode 9 = .ok (.iload_n 2, 1) := by decide +kernel
theorem d_MO_readNode_10 : decode b_MO_readNode 10 = .ok (.bipush 8, 2) := by decide +kernel
theorem d_MO_readNode_12 : decode b_MO_readNode 12 = .ok (.if_icmp .ge 33, 3) := by decide +kernel
theorem d_MO_readNode_15 : decode b_MO_readNode 15 = .ok (.aload_n 0, 1) := by decide +kernel
theorem d_MO_readNode_16 : decode b_MO_readNode 16 = .ok (.getfield 36, 3) := by decide +kernel
theorem d_MO_readNode_19 : decode b_MO_readNode 19 = .ok (.bipush 8, 2) := by decide +kernel
theorem d_MO_readNode_21 : decode b_MO_readNode 21 = .ok (.iload_n 1, 1) := by decide +kernel
theorem d_MO_readNode_22 : decode b_MO_readNode 22 = .ok (.imul, 1) := by decide +kernel
theorem d_MO_readNode_23 : decode b_MO_readNode 23 = .ok (.iload_n 2, 1) := by decide +kernel
theorem d_MO_readNode_24 : decode b_MO_readNode 24 = .ok (.iadd, 1) := by decide +kernel
theorem d_MO_readNode_25 : decode b_MO_readNode 25 = .ok (.iconst 0, 1) := by decide +kernel
theorem d_MO_readNode_26 : decode b_MO_readNode 26 = .ok (.iastore, 1) := by decide +kernel
theorem d_MO_readNode_27 : decode b_MO_readNode 27 = .ok (.aload_n 0, 1) := by decide +kernel
theorem d_MO_readNode_28 : decode b_MO_readNode 28 = .ok (.getfield 45, 3) := by decide +kernel
theorem d_MO_readNode_31 : decode b_MO_readNode 31 = .ok (.bipush 8, 2) := by decide +kernel
theorem d_MO_readNode_33 : decode b_MO_readNode 33 = .ok (.iload_n 1, 1) := by decide +kernel
theorem d_MO_readNode_34 : decode b_MO_readNode 34 = .ok (.imul, 1) := by decide +kernel
theorem d_MO_readNode_35 : decode b_MO_readNode 35 = .ok (.iload_n 2, 1) := by decide +kernel
theorem d_MO_readNode_36 : decode b_MO_readNode 36 = .ok (.iadd, 1) := by decide +kernel
theorem d_MO_readNode_37 : decode b_MO_readNode 37 = .ok (.iconst 0, 1) := by decide +kernel
theorem d_MO_readNode_38 : decode b_MO_readNode 38 = .ok (.iastore, 1) := by decide +kernel
theorem d_MO_readNode_39 : decode b_MO_readNode 39 = .ok (.iinc 2 1, 3) := by decide +kernel
theorem d_MO_readNode_42 : decode b_MO_readNode 42 = .ok (.goto (-33), 3) := by decide +kernel
theorem d_MO_readNode_45 : decode b_MO_readNode 45 = .ok (.aload_n 0, 1) := by decide +kernel
theorem d_MO_readNode_46 : decode b_MO_readNode 46 = .ok (.getfield 160, 3) := by decide +kernel
theorem d_MO_readNode_49 : decode b_MO_readNode 49 = .ok (.iload_n 1, 1) := by decide +kernel
theorem d_MO_readNode_50 : decode b_MO_readNode 50 = .ok (.ishr, 1) := by decide +kernel
theorem d_MO_readNode_51 : decode b_MO_readNode 51 = .ok (.iconst 1, 1) := by decide +kernel
theorem d_MO_readNode_52 : decode b_MO_readNode 52 = .ok (.iand, 1) := by decide +kernel
theorem d_MO_readNode_53 : decode b_MO_readNode 53 = .ok (.ifCond .ne 5, 3) := by decide +kernel
theorem d_MO_readNode_56 : decode b_MO_readNode 56 = .ok (.iconst 1, 1) := by decide +kernel
theorem d_MO_readNode_57 : decode b_MO_readNode 57 = .ok (.ireturn, 1) := by decide +kernel
theorem d_MO_readNode_58 : decode b_MO_readNode 58 = .ok (.aload_n 0, 1) := by decide +kernel
theorem d_MO_readNode_59 : decode b_MO_readNode 59 = .ok (.getfield 48, 3) := by decide +kernel
theorem d_MO_readNode_62 : decode b_MO_readNode 62 = .ok (.iload_n 1, 1) := by decide +kernel
theorem d_MO_readNode_63 : decode b_MO_readNode 63 = .ok (.iaload, 1) := by decide +kernel
theorem d_MO_readNode_64 : decode b_MO_readNode 64 = .ok (.istore_n 2, 1) := by decide +kernel
theorem d_MO_readNode_65 : decode b_MO_readNode 65 = .ok (.aload_n 0, 1) := by decide +kernel
theorem d_MO_readNode_66 : decode b_MO_readNode 66 = .ok (.iload_n 2, 1) := by decide +kernel
theorem d_MO_readNode_67 : decode b_MO_readNode 67 = .ok (.iconst 2, 1) := by decide +kernel
theorem d_MO_readNode_68 : decode b_MO_readNode 68 = .ok (.invokevirtual 124, 3) := by decide +kernel
theorem d_MO_readNode_71 : decode b_MO_readNode 71 = .ok (.ifCond .eq 5, 3) := by decide +kernel
theorem d_MO_readNode_74 : decode b_MO_readNode 74 = .ok (.iconst 0, 1) := by decide +kernel
theorem d_MO_readNode_75 : decode b_MO_readNode 75 = .ok (.ireturn, 1) := by decide +kernel
theorem d_MO_readNode_76 : decode b_MO_readNode 76 = .ok (.aload_n 0, 1) := by decide +kernel
theorem d_MO_readNode_77 : decode b_MO_readNode 77 = .ok (.getfield 42, 3) := by decide +kernel
theorem d_MO_readNode_80 : decode b_MO_readNode 80 = .ok (.iload_n 1, 1) := by decide +kernel
theorem d_MO_readNode_81 : decode b_MO_readNode 81 = .ok (.aload_n 0, 1) := by decide +kernel
theorem d_MO_readNode_82 : decode b_MO_readNode 82 = .ok (.iload_n 2, 1) := by decide +kernel
theorem d_MO_readNode_83 : decode b_MO_readNode 83 = .ok (.invokevirtual 92, 3) := by decide +kernel
theorem d_MO_readNode_86 : decode b_MO_readNode 86 = .ok (.iastore, 1) := by decide +kernel
theorem d_MO_readNode_87 : decode b_MO_readNode 87 = .ok (.iconst 1, 1) := by decide +kernel
theorem d_MO_readNode_88 : decode b_MO_readNode 88 = .ok (.istore_n 3, 1) := by decide +kernel
theorem d_MO_readNode_89 : decode b_MO_readNode 89 = .ok (.iconst 0, 1) := by decide +kernel
theorem d_MO_readNode_90 : decode b_MO_readNode 90 = .ok (.istore 4, 2) := by decide +kernel
theorem d_MO_readNode_92 : decode b_MO_readNode 92 = .ok (.iload 4, 2) := by decide +kernel
theorem d_MO_readNode_94 : decode b_MO_readNode 94 = .ok (.bipush 8, 2) := by decide +kernel
theorem d_MO_readNode_96 : decode b_MO_readNode 96 = .ok (.if_icmp .ge 91, 3) := by decide +kernel
theorem d_MO_readNode_99 : decode b_MO_readNode 99 = .ok (.bipush 8, 2) := by decide +kernel
theorem d_MO_readNode_101 : decode b_MO_readNode 101 = .ok (.iload_n 1, 1) := by decide +kernel
theorem d_MO_readNode_102 : decode b_MO_readNode 102 = .ok (.imul, 1) := by decide +kernel
theorem d_MO_readNode_103 : decode b_MO_readNode 103 = .ok (.iload 4, 2) := by decide +kernel
theorem d_MO_readNode_105 : decode b_MO_readNode 105 = .ok (.iadd, 1) := by decide +kernel
theorem d_MO_readNode_106 : decode b_MO_readNode 106 = .ok (.istore 5, 2) := by decide +kernel
theorem d_MO_readNode_108 : decode b_MO_readNode 108 = .ok (.aload_n 0, 1) := by decide +kernel
theorem d_MO_readNode_109 : decode b_MO_readNode 109 = .ok (.iload_n 2, 1) := by decide +kernel
theorem d_MO_readNode_110 : decode b_MO_readNode 110 = .ok (.iload 4, 2) := by decide +kernel
theorem d_MO_readNode_112 : decode b_MO_readNode 112 = .ok (.invokevirtual 134, 3) := by decide +kernel
theorem d_MO_readNode_115 : decode b_MO_readNode 115 = .ok (.istore 6, 2) := by decide +kernel
theorem d_MO_readNode_117 : decode b_MO_readNode 117 = .ok (.aload_n 0, 1) := by decide +kernel
theorem d_MO_readNode_118 : decode b_MO_readNode 118 = .ok (.getfield 45, 3) := by decide +kernel
theorem d_MO_readNode_121 : decode b_MO_readNode 121 = .ok (.iload 5, 2) := by decide +kernel
theorem d_MO_readNode_123 : decode b_MO_readNode 123 = .ok (.iload 6, 2) := by decide +kernel
theorem d_MO_readNode_125 : decode b_MO_readNode 125 = .ok (.ifCond .eq 13, 3) := by decide +kernel
theorem d_MO_readNode_128 : decode b_MO_readNode 128 = .ok (.aload_n 0, 1) := by decide +kernel
theorem d_MO_readNode_129 : decode b_MO_readNode 129 = .ok (.iload_n 2, 1) := by decide +kernel
theorem d_MO_readNode_130 : decode b_MO_readNode 130 = .ok (.iload 4, 2) := by decide +kernel
theorem d_MO_readNode_132 : decode b_MO_readNode 132 = .ok (.invokevirtual 130, 3) := by decide +kernel
theorem d_MO_readNode_135 : decode b_MO_readNode 135 = .ok (.goto 4, 3) := by decide +kernel
theorem d_MO_readNode_138 : decode b_MO_readNode 138 = .ok (.iconst 0, 1) := by decide +kernel
theorem d_MO_readNode_139 : decode b_MO_readNode 139 = .ok (.iastore, 1) := by decide +kernel
theorem d_MO_readNode_140 : decode b_MO_readNode 140 = .ok (.iload_n 3, 1) := by decide +kernel
theorem d_MO_readNode_141 : decode b_MO_readNode 141 = .ok (.ifCond .eq 38, 3) := by decide +kernel
theorem d_MO_readNode_144 : decode b_MO_readNode 144 = .ok (.iload 6, 2) := by decide +kernel
theorem d_MO_readNode_146 : decode b_MO_readNode 146 = .ok (.ifCond .eq 29, 3) := by decide +kernel
theorem d_MO_readNode_149 : decode b_MO_readNode 149 = .ok (.aload_n 0, 1) := by decide +kernel
theorem d_MO_readNode_150 : decode b_MO_readNode 150 = .ok (.getfield 33, 3) := by decide +kernel
theorem d_MO_readNode_153 : decode b_MO_readNode 153 = .ok (.iload 5, 2) := by decide +kernel
theorem d_MO_readNode_155 : decode b_MO_readNode 155 = .ok (.baload, 1) := by decide +kernel
theorem d_MO_readNode_156 : decode b_MO_readNode 156 = .ok (.ifCond .eq 19, 3) := by decide +kernel
theorem d_MO_readNode_159 : decode b_MO_readNode 159 = .ok (.aload_n 0, 1) := by decide +kernel
theorem d_MO_readNode_160 : decode b_MO_readNode 160 = .ok (.iload 5, 2) := by decide +kernel
theorem d_MO_readNode_162 : decode b_MO_readNode 162 = .ok (.aload_n 0, 1) := by decide +kernel
theorem d_MO_readNode_163 : decode b_MO_readNode 163 = .ok (.getfield 45, 3) := by decide +kernel
theorem d_MO_readNode_166 : decode b_MO_readNode 166 = .ok (.iload 5, 2) := by decide +kernel
theorem d_MO_readNode_168 : decode b_MO_readNode 168 = .ok (.iaload, 1) := by decide +kernel
theorem d_MO_readNode_169 : decode b_MO_readNode 169 = .ok (.invokevirtual 163, 3) := by decide +kernel
theorem d_MO_readNode_172 : decode b_MO_readNode 172 = .ok (.ifCond .eq 7, 3) := by decide +kernel
theorem d_MO_readNode_175 : decode b_MO_readNode 175 = .ok (.iconst 1, 1) := by decide +kernel
theorem d_MO_readNode_176 : decode b_MO_readNode 176 = .ok (.goto 4, 3) := by decide +kernel
theorem d_MO_readNode_179 : decode b_MO_readNode 179 = .ok (.iconst 0, 1) := by decide +kernel
theorem d_MO_readNode_180 : decode b_MO_readNode 180 = .ok (.istore_n 3, 1) := by decide +kernel
theorem d_MO_readNode_181 : decode b_MO_readNode 181 = .ok (.iinc 4 1, 3) := by decide +kernel
theorem d_MO_readNode_184 : decode b_MO_readNode 184 = .ok (.goto (-92), 3) := by decide +kernel
theorem d_MO_readNode_187 : decode b_MO_readNode 187 = .ok (.iload_n 3, 1) := by decide +kernel
theorem d_MO_readNode_188 : decode b_MO_readNode 188 = .ok (.ireturn, 1) := by decide +kernel
theorem d_MO_isNodeChanged_0 : decode b_MO_isNodeChanged 0 = .ok (.iconst 0, 1) := by decide +kernel
theorem d_MO_isNodeChanged_1 : decode b_MO_isNodeChanged 1 = .ok (.istore_n 2, 1) := by decide +kernel
theorem d_MO_isNodeChanged_2 : decode b_MO_isNodeChanged 2 = .ok (.iconst 0, 1) := by decide +kernel
theorem d_MO_isNodeChanged_3 : decode b_MO_isNodeChanged 3 = .ok (.istore_n 3, 1) := by decide +kernel
theorem d_MO_isNodeChanged_4 : decode b_MO_isNodeChanged 4 = .ok (.iload_n 3, 1) := by decide +kernel
theorem d_MO_isNodeChanged_5 : decode b_MO_isNodeChanged 5 = .ok (.bipush 8, 2) := by decide +kernel
theorem d_MO_isNodeChanged_7 : decode b_MO_isNodeChanged 7 = .ok (.if_icmp .ge 33, 3) := by decide +kernel
theorem d_MO_isNodeChanged_10 : decode b_MO_isNodeChanged 10 = .ok (.iload_n 2, 1) := by decide +kernel
theorem d_MO_isNodeChanged_11 : decode b_MO_isNodeChanged 11 = .ok (.ifCond .ne 17, 3) := by decide +kernel
theorem d_MO_isNodeChanged_14 : decode b_MO_isNodeChanged 14 = .ok (.aload_n 0, 1) := by decide +kernel
theorem d_MO_isNodeChanged_15 : decode b_MO_isNodeChanged 15 = .ok (.getfield 33, 3) := by decide +kernel
theorem d_MO_isNodeChanged_18 : decode b_MO_isNodeChanged 18 = .ok (.bipush 8, 2) := by decide +kernel
theorem d_MO_isNodeChanged_20 : decode b_MO_isNodeChanged 20 = .ok (.iload_n 1, 1) := by decide +kernel
theorem d_MO_isNodeChanged_21 : decode b_MO_isNodeChanged 21 = .ok (.imul, 1) := by decide +kernel
theorem d_MO_isNodeChanged_22 : decode b_MO_isNodeChanged 22 = .ok (.iload_n 3, 1) := by decide +kernel
theorem d_MO_isNodeChanged_23 : decode b_MO_isNodeChanged 23 = .ok (.iadd, 1) := by decide +kernel
theorem d_MO_isNodeChanged_24 : decode b_MO_isNodeChanged 24 = .ok (.baload, 1) := by decide +kernel
theorem d_MO_isNodeChanged_25 : decode b_MO_isNodeChanged 25 = .ok (.ifCond .eq 7, 3) := by decide +kernel
theorem d_MO_isNodeChanged_28 : decode b_MO_isNodeChanged 28 = .ok (.iconst 1, 1) := by decide +kernel
theorem d_MO_isNodeChanged_29 : decode b_MO_isNodeChanged 29 = .ok (.goto 4, 3) := by decide +kernel
theorem d_MO_isNodeChanged_32 : decode b_MO_isNodeChanged 32 = .ok (.iconst 0, 1) := by decide +kernel
theorem d_MO_isNodeChanged_33 : decode b_MO_isNodeChanged 33 = .ok (.istore_n 2, 1) := by decide +kernel
theorem d_MO_isNodeChanged_34 : decode b_MO_isNodeChanged 34 = .ok (.iinc 3 1, 3) := by decide +kernel
theorem d_MO_isNodeChanged_37 : decode b_MO_isNodeChanged 37 = .ok (.goto (-33), 3) := by decide +kernel
theorem d_MO_isNodeChanged_40 : decode b_MO_isNodeChanged 40 = .ok (.iload_n 2, 1) := by decide +kernel
theorem d_MO_isNodeChanged_41 : decode b_MO_isNodeChanged 41 = .ok (.ireturn, 1) := by decide +kernel
theorem d_MO_readTop_0 : decode b_MO_readTop 0 = .ok (.aload_n 0, 1) := by decide +kernel
theorem d_MO_readTop_1 : decode b_MO_readTop 1 = .ok (.iconst 0, 1) := by decide +kernel
theorem d_MO_readTop_2 : decode b_MO_readTop 2 = .ok (.putfield 160, 3) := by decide +kernel
theorem d_MO_readTop_5 : decode b_MO_readTop 5 = .ok (.aload_n 0, 1) := by decide +kernel
theorem d_MO_readTop_6 : decode b_MO_readTop 6 = .ok (.iconst 0, 1) := by decide +kernel
theorem d_MO_readTop_7 : decode b_MO_readTop 7 = .ok (.putfield 166, 3) := by decide +kernel
theorem d_MO_readTop_10 : decode b_MO_readTop 10 = .ok (.aload_n 0, 1) := by decide +kernel
theorem d_MO_readTop_11 : decode b_MO_readTop 11 = .ok (.getfield 137, 3) := by decide +kernel
theorem d_MO_readTop_14 : decode b_MO_readTop 14 = .ok (.ifCond .ne 5, 3) := by decide +kernel
theorem d_MO_readTop_17 : decode b_MO_readTop 17 = .ok (.iconst 1, 1) := by decide +kernel
theorem d_MO_readTop_18 : decode b_MO_readTop 18 = .ok (.ireturn, 1) := by decide +kernel
theorem d_MO_readTop_19 : decode b_MO_readTop 19 = .ok (.aload_n 0, 1) := by decide +kernel
theorem d_MO_readTop_20 : decode b_MO_readTop 20 = .ok (.aload_n 0, 1) := by decide +kernel
theorem d_MO_readTop_21 : decode b_MO_readTop 21 = .ok (.getfield 137, 3) := by decide +kernel
theorem d_MO_readTop_24 : decode b_MO_readTop 24 = .ok (.invokevirtual 119, 3) := by decide +kernel
theorem d_MO_readTop_27 : decode b_MO_readTop 27 = .ok (.istore_n 1, 1) := by decide +kernel
theorem d_MO_readTop_28 : decode b_MO_readTop 28 = .ok (.aload_n 0, 1) := by decide +kernel
theorem d_MO_readTop_29 : decode b_MO_readTop 29 = .ok (.iload_n 1, 1) := by decide +kernel
theorem d_MO_readTop_30 : decode b_MO_readTop 30 = .ok (.iconst 4, 1) := by decide +kernel
theorem d_MO_readTop_31 : decode b_MO_readTop 31 = .ok (.invokevirtual 124, 3) := by decide +kernel
theorem d_MO_readTop_34 : decode b_MO_readTop 34 = .ok (.ifCond .eq 5, 3) := by decide +kernel
theorem d_MO_readTop_37 : decode b_MO_readTop 37 = .ok (.iconst 0, 1) := by decide +kernel
theorem d_MO_readTop_38 : decode b_MO_readTop 38 = .ok (.ireturn, 1) := by decide +kernel
theorem d_MO_readTop_39 : decode b_MO_readTop 39 = .ok (.aload_n 0, 1) := by decide +kernel
theorem d_MO_readTop_40 : decode b_MO_readTop 40 = .ok (.aload_n 0, 1) := by decide +kernel
theorem d_MO_readTop_41 : decode b_MO_readTop 41 = .ok (.iload_n 1, 1) := by decide +kernel
theorem d_MO_readTop_42 : decode b_MO_readTop 42 = .ok (.iconst 1, 1) := by decide +kernel
theorem d_MO_readTop_43 : decode b_MO_readTop 43 = .ok (.invokevirtual 130, 3) := by decide +kernel
theorem d_MO_readTop_46 : decode b_MO_readTop 46 = .ok (.putfield 166, 3) := by decide +kernel
theorem d_MO_readTop_49 : decode b_MO_readTop 49 = .ok (.aload_n 0, 1) := by decide +kernel
theorem d_MO_readTop_50 : decode b_MO_readTop 50 = .ok (.iload_n 1, 1) := by decide +kernel
theorem d_MO_readTop_51 : decode b_MO_readTop 51 = .ok (.invokevirtual 92, 3) := by decide +kernel
theorem d_MO_readTop_54 : decode b_MO_readTop 54 = .ok (.iconst 1, 1) := by decide +kernel
theorem d_MO_readTop_55 : decode b_MO_readTop 55 = .ok (.iand, 1) := by decide +kernel
theorem d_MO_readTop_56 : decode b_MO_readTop 56 = .ok (.ifCond .ne 5, 3) := by decide +kernel
theorem d_MO_readTop_59 : decode b_MO_readTop 59 = .ok (.iconst 1, 1) := by decide +kernel
theorem d_MO_readTop_60 : decode b_MO_readTop 60 = .ok (.ireturn, 1) := by decide +kernel
theorem d_MO_readTop_61 : decode b_MO_readTop 61 = .ok (.aload_n 0, 1) := by decide +kernel
theorem d_MO_readTop_62 : decode b_MO_readTop 62 = .ok (.iload_n 1, 1) := by decide +kernel
theorem d_MO_readTop_63 : decode b_MO_readTop 63 = .ok (.iconst 0, 1) := by decide +kernel
theorem d_MO_readTop_64 : decode b_MO_readTop 64 = .ok (.invokevirtual 130, 3) := by decide +kernel
theorem d_MO_readTop_67 : decode b_MO_readTop 67 = .ok (.istore_n 2, 1) := by decide +kernel
theorem d_MO_readTop_68 : decode b_MO_readTop 68 = .ok (.aload_n 0, 1) := by decide +kernel
theorem d_MO_readTop_69 : decode b_MO_readTop 69 = .ok (.iload_n 2, 1) := by decide +kernel
theorem d_MO_readTop_70 : decode b_MO_readTop 70 = .ok (.iconst 3, 1) := by decide +kernel
theorem d_MO_readTop_71 : decode b_MO_readTop 71 = .ok (.invokevirtual 124, 3) := by decide +kernel
theorem d_MO_readTop_74 : decode b_MO_readTop 74 = .ok (.ifCond .eq 5, 3) := by decide +kernel
theorem d_MO_readTop_77 : decode b_MO_readTop 77 = .ok (.iconst 0, 1) := by decide +kernel
theorem d_MO_readTop_78 : decode b_MO_readTop 78 = .ok (.ireturn, 1) := by decide +kernel
theorem d_MO_readTop_79 : decode b_MO_readTop 79 = .ok (.aload_n 0, 1) := by decide +kernel
theorem d_MO_readTop_80 : decode b_MO_readTop 80 = .ok (.aload_n 0, 1) := by decide +kernel
theorem d_MO_readTop_81 : decode b_MO_readTop 81 = .ok (.iload_n 2, 1) := by decide +kernel
theorem d_MO_readTop_82 : decode b_MO_readTop 82 = .ok (.invokevirtual 92, 3) := by decide +kernel
theorem d_MO_readTop_85 : decode b_MO_readTop 85 = .ok (.putfield 160, 3) := by decide +kernel
theorem d_MO_readTop_88 : decode b_MO_readTop 88 = .ok (.iconst 0, 1) := by decide +kernel
theorem d_MO_readTop_89 : decode b_MO_readTop 89 = .ok (.istore_n 3, 1) := by decide +kernel
theorem d_MO_readTop_90 : decode b_MO_readTop 90 = .ok (.iload_n 3, 1) := by decide +kernel
theorem d_MO_readTop_91 : decode b_MO_readTop 91 = .ok (.bipush 8, 2) := by decide +kernel
theorem d_MO_readTop_93 : decode b_MO_readTop 93 = .ok (.if_icmp .ge 34, 3) := by decide +kernel
theorem d_MO_readTop_96 : decode b_MO_readTop 96 = .ok (.aload_n 0, 1) := by decide +kernel
theorem d_MO_readTop_97 : decode b_MO_readTop 97 = .ok (.getfield 48, 3) := by decide +kernel
theorem d_MO_readTop_100 : decode b_MO_readTop 100 = .ok (.iload_n 3, 1) := by decide +kernel
theorem d_MO_readTop_101 : decode b_MO_readTop 101 = .ok (.aload_n 0, 1) := by decide +kernel
theorem d_MO_readTop_102 : decode b_MO_readTop 102 = .ok (.iload_n 2, 1) := by decide +kernel
theorem d_MO_readTop_103 : decode b_MO_readTop 103 = .ok (.iload_n 3, 1) := by decide +kernel
theorem d_MO_readTop_104 : decode b_MO_readTop 104 = .ok (.invokevirtual 134, 3) := by decide +kernel
theorem d_MO_readTop_107 : decode b_MO_readTop 107 = .ok (.ifCond .eq 12, 3) := by decide +kernel
theorem d_MO_readTop_110 : decode b_MO_readTop 110 = .ok (.aload_n 0, 1) := by decide +kernel
theorem d_MO_readTop_111 : decode b_MO_readTop 111 = .ok (.iload_n 2, 1) := by decide +kernel
theorem d_MO_readTop_112 : decode b_MO_readTop 112 = .ok (.iload_n 3, 1) := by decide +kernel
theorem d_MO_readTop_113 : decode b_MO_readTop 113 = .ok (.invokevirtual 130, 3) := by decide +kernel
theorem d_MO_readTop_116 : decode b_MO_readTop 116 = .ok (.goto 4, 3) := by decide +kernel
theorem d_MO_readTop_119 : decode b_MO_readTop 119 = .ok (.iconst 0, 1) := by decide +kernel
theorem d_MO_readTop_120 : decode b_MO_readTop 120 = .ok (.iastore, 1) := by decide +kernel
theorem d_MO_readTop_121 : decode b_MO_readTop 121 = .ok (.iinc 3 1, 3) := by decide +kernel
theorem d_MO_readTop_124 : decode b_MO_readTop 124 = .ok (.goto (-34), 3) := by decide +kernel
theorem d_MO_readTop_127 : decode b_MO_readTop 127 = .ok (.iconst 1, 1) := by decide +kernel
theorem d_MO_readTop_128 : decode b_MO_readTop 128 = .ok (.ireturn, 1) := by decide +kernel
theorem d_MO_readAll_0 : decode b_MO_readAll 0 = .ok (.aload_n 0, 1) := by decide +kernel
theorem d_MO_readAll_1 : decode b_MO_readAll 1 = .ok (.invokevirtual 169, 3) := by decide +kernel
theorem d_MO_readAll_4 : decode b_MO_readAll 4 = .ok (.istore_n 1, 1) := by decide +kernel
theorem d_MO_readAll_5 : decode b_MO_readAll 5 = .ok (.iconst 0, 1) := by decide +kernel
theorem d_MO_readAll_6 : decode b_MO_readAll 6 = .ok (.istore_n 2, 1) := by decide +kernel
theorem d_MO_readAll_7 : decode b_MO_readAll 7 = .ok (.iload_n 2, 1) := by decide +kernel
theorem d_MO_readAll_8 : decode b_MO_readAll 8 = .ok (.bipush 8, 2) := by decide +kernel
theorem d_MO_readAll_10 : decode b_MO_readAll 10 = .ok (.if_icmp .ge 35, 3) := by decide +kernel
theorem d_MO_readAll_13 : decode b_MO_readAll 13 = .ok (.iload_n 1, 1) := by decide +kernel
theorem d_MO_readAll_14 : decode b_MO_readAll 14 = .ok (.ifCond .eq 31, 3) := by decide +kernel
theorem d_MO_readAll_17 : decode b_MO_readAll 17 = .ok (.aload_n 0, 1) := by decide +kernel
theorem d_MO_readAll_18 : decode b_MO_readAll 18 = .ok (.iload_n 2, 1) := by decide +kernel
theorem d_MO_readAll_19 : decode b_MO_readAll 19 = .ok (.invokevirtual 172, 3) := by decide +kernel
theorem d_MO_readAll_22 : decode b_MO_readAll 22 = .ok (.ifCond .eq 11, 3) := by decide +kernel
theorem d_MO_readAll_25 : decode b_MO_readAll 25 = .ok (.aload_n 0, 1) := by decide +kernel
theorem d_MO_readAll_26 : decode b_MO_readAll 26 = .ok (.iload_n 2, 1) := by decide +kernel
theorem d_MO_readAll_27 : decode b_MO_readAll 27 = .ok (.invokevirtual 175, 3) := by decide +kernel
theorem d_MO_readAll_30 : decode b_MO_readAll 30 = .ok (.ifCond .eq 7, 3) := by decide +kernel
theorem d_MO_readAll_33 : decode b_MO_readAll 33 = .ok (.iconst 1, 1) := by decide +kernel
theorem d_MO_readAll_34 : decode b_MO_readAll 34 = .ok (.goto 4, 3) := by decide +kernel
theorem d_MO_readAll_37 : decode b_MO_readAll 37 = .ok (.iconst 0, 1) := by decide +kernel
theorem d_MO_readAll_38 : decode b_MO_readAll 38 = .ok (.istore_n 1, 1) := by decide +kernel
theorem d_MO_readAll_39 : decode b_MO_readAll 39 = .ok (.iinc 2 1, 3) := by decide +kernel
theorem d_MO_readAll_42 : decode b_MO_readAll 42 = .ok (.goto (-35), 3) := by decide +kernel
theorem d_MO_readAll_45 : decode b_MO_readAll 45 = .ok (.iload_n 1, 1) := by decide +kernel
theorem d_MO_readAll_46 : decode b_MO_readAll 46 = .ok (.ireturn, 1) := by decide +kernel
theorem d_MO_applyDraft_0 : decode b_MO_applyDraft 0 = .ok (.iconst 0, 1) := by decide +kernel
theorem d_MO_applyDraft_1 : decode b_MO_applyDraft 1 = .ok (.istore_n 1, 1) := by decide +kernel
theorem d_MO_applyDraft_2 : decode b_MO_applyDraft 2 = .ok (.iload_n 1, 1) := by decide +kernel
theorem d_MO_applyDraft_3 : decode b_MO_applyDraft 3 = .ok (.sipush 512, 3) := by decide +kernel
theorem d_MO_applyDraft_6 : decode b_MO_applyDraft 6 = .ok (.if_icmp .ge 155, 3) := by decide +kernel
theorem d_MO_applyDraft_9 : decode b_MO_applyDraft 9 = .ok (.iload_n 1, 1) := by decide +kernel
theorem d_MO_applyDraft_10 : decode b_MO_applyDraft 10 = .ok (.bipush 8, 2) := by decide +kernel
theorem d_MO_applyDraft_12 : decode b_MO_applyDraft 12 = .ok (.idiv, 1) := by decide +kernel
theorem d_MO_applyDraft_13 : decode b_MO_applyDraft 13 = .ok (.istore_n 2, 1) := by decide +kernel
theorem d_MO_applyDraft_14 : decode b_MO_applyDraft 14 = .ok (.iconst 1, 1) := by decide +kernel
theorem d_MO_applyDraft_15 : decode b_MO_applyDraft 15 = .ok (.iload_n 1, 1) := by decide +kernel
theorem d_MO_applyDraft_16 : decode b_MO_applyDraft 16 = .ok (.bipush 8, 2) := by decide +kernel
theorem d_MO_applyDraft_18 : decode b_MO_applyDraft 18 = .ok (.irem, 1) := by decide +kernel
theorem d_MO_applyDraft_19 : decode b_MO_applyDraft 19 = .ok (.ishl, 1) := by decide +kernel
theorem d_MO_applyDraft_20 : decode b_MO_applyDraft 20 = .ok (.istore_n 3, 1) := by decide +kernel
theorem d_MO_applyDraft_21 : decode b_MO_applyDraft 21 = .ok (.aload_n 0, 1) := by decide +kernel
theorem d_MO_applyDraft_22 : decode b_MO_applyDraft 22 = .ok (.getfield 36, 3) := by decide +kernel
theorem d_MO_applyDraft_25 : decode b_MO_applyDraft 25 = .ok (.iload_n 2, 1) := by decide +kernel
theorem d_MO_applyDraft_26 : decode b_MO_applyDraft 26 = .ok (.iaload, 1) := by decide +kernel
theorem d_MO_applyDraft_27 : decode b_MO_applyDraft 27 = .ok (.iload_n 3, 1) := by decide +kernel
theorem d_MO_applyDraft_28 : decode b_MO_applyDraft 28 = .ok (.iand, 1) := by decide +kernel
theorem d_MO_applyDraft_29 : decode b_MO_applyDraft 29 = .ok (.ifCond .eq 7, 3) := by decide +kernel
theorem d_MO_applyDraft_32 : decode b_MO_applyDraft 32 = .ok (.iconst 1, 1) := by decide +kernel
theorem d_MO_applyDraft_33 : decode b_MO_applyDraft 33 = .ok (.goto 4, 3) := by decide +kernel
theorem d_MO_applyDraft_36 : decode b_MO_applyDraft 36 = .ok (.iconst 0, 1) := by decide +kernel
theorem d_MO_applyDraft_37 : decode b_MO_applyDraft 37 = .ok (.istore 4, 2) := by decide +kernel
theorem d_MO_applyDraft_39 : decode b_MO_applyDraft 39 = .ok (.aload_n 0, 1) := by decide +kernel
theorem d_MO_applyDraft_40 : decode b_MO_applyDraft 40 = .ok (.getfield 27, 3) := by decide +kernel
theorem d_MO_applyDraft_43 : decode b_MO_applyDraft 43 = .ok (.iload_n 1, 1) := by decide +kernel
theorem d_MO_applyDraft_44 : decode b_MO_applyDraft 44 = .ok (.iaload, 1) := by decide +kernel
theorem d_MO_applyDraft_45 : decode b_MO_applyDraft 45 = .ok (.iconst 1, 1) := by decide +kernel
theorem d_MO_applyDraft_46 : decode b_MO_applyDraft 46 = .ok (.if_icmp .ne 54, 3) := by decide +kernel
theorem d_MO_applyDraft_49 : decode b_MO_applyDraft 49 = .ok (.aload_n 0, 1) := by decide +kernel
theorem d_MO_applyDraft_50 : decode b_MO_applyDraft 50 = .ok (.iload 4, 2) := by decide +kernel
theorem d_MO_applyDraft_52 : decode b_MO_applyDraft 52 = .ok (.ifCond .eq 10, 3) := by decide +kernel
theorem d_MO_applyDraft_55 : decode b_MO_applyDraft 55 = .ok (.aload_n 0, 1) := by decide +kernel
theorem d_MO_applyDraft_56 : decode b_MO_applyDraft 56 = .ok (.getfield 166, 3) := by decide +kernel
theorem d_MO_applyDraft_59 : decode b_MO_applyDraft 59 = .ok (.goto 9, 3) := by decide +kernel
theorem d_MO_applyDraft_62 : decode b_MO_applyDraft 62 = .ok (.aload_n 0, 1) := by decide +kernel
theorem d_MO_applyDraft_63 : decode b_MO_applyDraft 63 = .ok (.getfield 166, 3) := by decide +kernel
theorem d_MO_applyDraft_66 : decode b_MO_applyDraft 66 = .ok (.iconst 1, 1) := by decide +kernel
theorem d_MO_applyDraft_67 : decode b_MO_applyDraft 67 = .ok (.iadd, 1) := by decide +kernel
theorem d_MO_applyDraft_68 : decode b_MO_applyDraft 68 = .ok (.putfield 166, 3) := by decide +kernel
theorem d_MO_applyDraft_71 : decode b_MO_applyDraft 71 = .ok (.aload_n 0, 1) := by decide +kernel
theorem d_MO_applyDraft_72 : decode b_MO_applyDraft 72 = .ok (.getfield 36, 3) := by decide +kernel
theorem d_MO_applyDraft_75 : decode b_MO_applyDraft 75 = .ok (.iload_n 2, 1) := by decide +kernel
theorem d_MO_applyDraft_76 : decode b_MO_applyDraft 76 = .ok (.aload_n 0, 1) := by decide +kernel
theorem d_MO_applyDraft_77 : decode b_MO_applyDraft 77 = .ok (.getfield 36, 3) := by decide +kernel
theorem d_MO_applyDraft_80 : decode b_MO_applyDraft 80 = .ok (.iload_n 2, 1) := by decide +kernel
theorem d_MO_applyDraft_81 : decode b_MO_applyDraft 81 = .ok (.iaload, 1) := by decide +kernel
theorem d_MO_applyDraft_82 : decode b_MO_applyDraft 82 = .ok (.iload_n 3, 1) := by decide +kernel
theorem d_MO_applyDraft_83 : decode b_MO_applyDraft 83 = .ok (.ior, 1) := by decide +kernel
theorem d_MO_applyDraft_84 : decode b_MO_applyDraft 84 = .ok (.iastore, 1) := by decide +kernel
theorem d_MO_applyDraft_85 : decode b_MO_applyDraft 85 = .ok (.aload_n 0, 1) := by decide +kernel
theorem d_MO_applyDraft_86 : decode b_MO_applyDraft 86 = .ok (.getfield 39, 3) := by decide +kernel
theorem d_MO_applyDraft_89 : decode b_MO_applyDraft 89 = .ok (.iload_n 1, 1) := by decide +kernel
theorem d_MO_applyDraft_90 : decode b_MO_applyDraft 90 = .ok (.aload_n 0, 1) := by decide +kernel
theorem d_MO_applyDraft_91 : decode b_MO_applyDraft 91 = .ok (.getfield 30, 3) := by decide +kernel
theorem d_MO_applyDraft_94 : decode b_MO_applyDraft 94 = .ok (.iload_n 1, 1) := by decide +kernel
theorem d_MO_applyDraft_95 : decode b_MO_applyDraft 95 = .ok (.iaload, 1) := by decide +kernel
theorem d_MO_applyDraft_96 : decode b_MO_applyDraft 96 = .ok (.iastore, 1) := by decide +kernel
theorem d_MO_applyDraft_97 : decode b_MO_applyDraft 97 = .ok (.goto 58, 3) := by decide +kernel
theorem d_MO_applyDraft_100 : decode b_MO_applyDraft 100 = .ok (.aload_n 0, 1) := by decide +kernel
theorem d_MO_applyDraft_101 : decode b_MO_applyDraft 101 = .ok (.getfield 27, 3) := by decide +kernel
theorem d_MO_applyDraft_104 : decode b_MO_applyDraft 104 = .ok (.iload_n 1, 1) := by decide +kernel
theorem d_MO_applyDraft_105 : decode b_MO_applyDraft 105 = .ok (.iaload, 1) := by decide +kernel
theorem d_MO_applyDraft_106 : decode b_MO_applyDraft 106 = .ok (.iconst 2, 1) := by decide +kernel
theorem d_MO_applyDraft_107 : decode b_MO_applyDraft 107 = .ok (.if_icmp .ne 48, 3) := by decide +kernel
theorem d_MO_applyDraft_110 : decode b_MO_applyDraft 110 = .ok (.aload_n 0, 1) := by decide +kernel
theorem d_MO_applyDraft_111 : decode b_MO_applyDraft 111 = .ok (.iload 4, 2) := by decide +kernel
theorem d_MO_applyDraft_113 : decode b_MO_applyDraft 113 = .ok (.ifCond .eq 12, 3) := by decide +kernel
theorem d_MO_applyDraft_116 : decode b_MO_applyDraft 116 = .ok (.aload_n 0, 1) := by decide +kernel
theorem d_MO_applyDraft_117 : decode b_MO_applyDraft 117 = .ok (.getfield 166, 3) := by decide +kernel
theorem d_MO_applyDraft_120 : decode b_MO_applyDraft 120 = .ok (.iconst 1, 1) := by decide +kernel
theorem d_MO_applyDraft_121 : decode b_MO_applyDraft 121 = .ok (.isub, 1) := by decide +kernel
theorem d_MO_applyDraft_122 : decode b_MO_applyDraft 122 = .ok (.goto 7, 3) := by decide +kernel
theorem d_MO_applyDraft_125 : decode b_MO_applyDraft 125 = .ok (.aload_n 0, 1) := by decide +kernel
theorem d_MO_applyDraft_126 : decode b_MO_applyDraft 126 = .ok (.getfield 166, 3) := by decide +kernel
theorem d_MO_applyDraft_129 : decode b_MO_applyDraft 129 = .ok (.putfield 166, 3) := by decide +kernel
theorem d_MO_applyDraft_132 : decode b_MO_applyDraft 132 = .ok (.aload_n 0, 1) := by decide +kernel
theorem d_MO_applyDraft_133 : decode b_MO_applyDraft 133 = .ok (.getfield 36, 3) := by decide +kernel
theorem d_MO_applyDraft_136 : decode b_MO_applyDraft 136 = .ok (.iload_n 2, 1) := by decide +kernel
theorem d_MO_applyDraft_137 : decode b_MO_applyDraft 137 = .ok (.aload_n 0, 1) := by decide +kernel
theorem d_MO_applyDraft_138 : decode b_MO_applyDraft 138 = .ok (.getfield 36, 3) := by decide +kernel
theorem d_MO_applyDraft_141 : decode b_MO_applyDraft 141 = .ok (.iload_n 2, 1) := by decide +kernel
theorem d_MO_applyDraft_142 : decode b_MO_applyDraft 142 = .ok (.iaload, 1) := by decide +kernel
theorem d_MO_applyDraft_143 : decode b_MO_applyDraft 143 = .ok (.iload_n 3, 1) := by decide +kernel
theorem d_MO_applyDraft_144 : decode b_MO_applyDraft 144 = .ok (.iconst (-1), 1) := by decide +kernel
theorem d_MO_applyDraft_145 : decode b_MO_applyDraft 145 = .ok (.ixor, 1) := by decide +kernel
theorem d_MO_applyDraft_146 : decode b_MO_applyDraft 146 = .ok (.iand, 1) := by decide +kernel
theorem d_MO_applyDraft_147 : decode b_MO_applyDraft 147 = .ok (.iastore, 1) := by decide +kernel
theorem d_MO_applyDraft_148 : decode b_MO_applyDraft 148 = .ok (.aload_n 0, 1) := by decide +kernel
theorem d_MO_applyDraft_149 : decode b_MO_applyDraft 149 = .ok (.getfield 39, 3) := by decide +kernel
theorem d_MO_applyDraft_152 : decode b_MO_applyDraft 152 = .ok (.iload_n 1, 1) := by decide +kernel
theorem d_MO_applyDraft_153 : decode b_MO_applyDraft 153 = .ok (.iconst 0, 1) := by decide +kernel
theorem d_MO_applyDraft_154 : decode b_MO_applyDraft 154 = .ok (.iastore, 1) := by decide +kernel
theorem d_MO_applyDraft_155 : decode b_MO_applyDraft 155 = .ok (.iinc 1 1, 3) := by decide +kernel
theorem d_MO_applyDraft_158 : decode b_MO_applyDraft 158 = .ok (.goto (-156), 3) := by decide +kernel
theorem d_MO_applyDraft_161 : decode b_MO_applyDraft 161 = .ok (.return_, 1) := by decide +kernel
theorem d_MO_settle_0 : decode b_MO_settle 0 = .ok (.iconst 1, 1) := by decide +kernel
theorem d_MO_settle_1 : decode b_MO_settle 1 = .ok (.istore_n 1, 1) := by decide +kernel
theorem d_MO_settle_2 : decode b_MO_settle 2 = .ok (.iconst 0, 1) := by decide +kernel
theorem d_MO_settle_3 : decode b_MO_settle 3 = .ok (.istore_n 2, 1) := by decide +kernel
theorem d_MO_settle_4 : decode b_MO_settle 4 = .ok (.iload_n 2, 1) := by decide +kernel
theorem d_MO_settle_5 : decode b_MO_settle 5 = .ok (.bipush 8, 2) := by decide +kernel
theorem d_MO_settle_7 : decode b_MO_settle 7 = .ok (.if_icmp .ge 159, 3) := by decide +kernel
theorem d_MO_settle_10 : decode b_MO_settle 10 = .ok (.iconst 0, 1) := by decide +kernel
theorem d_MO_settle_11 : decode b_MO_settle 11 = .ok (.istore_n 3, 1) := by decide +kernel
theorem d_MO_settle_12 : decode b_MO_settle 12 = .ok (.iload_n 3, 1) := by decide +kernel
theorem d_MO_settle_13 : decode b_MO_settle 13 = .ok (.bipush 8, 2) := by decide +kernel
theorem d_MO_settle_15 : decode b_MO_settle 15 = .ok (.if_icmp .ge 86, 3) := by decide +kernel
theorem d_MO_settle_18 : decode b_MO_settle 18 = .ok (.bipush 8, 2) := by decide +kernel
theorem d_MO_settle_20 : decode b_MO_settle 20 = .ok (.iload_n 2, 1) := by decide +kernel
theorem d_MO_settle_21 : decode b_MO_settle 21 = .ok (.imul, 1) := by decide +kernel
theorem d_MO_settle_22 : decode b_MO_settle 22 = .ok (.iload_n 3, 1) := by decide +kernel
theorem d_MO_settle_23 : decode b_MO_settle 23 = .ok (.iadd, 1) := by decide +kernel
theorem d_MO_settle_24 : decode b_MO_settle 24 = .ok (.istore 4, 2) := by decide +kernel
theorem d_MO_settle_26 : decode b_MO_settle 26 = .ok (.aload_n 0, 1) := by decide +kernel
theorem d_MO_settle_27 : decode b_MO_settle 27 = .ok (.getfield 33, 3) := by decide +kernel
theorem d_MO_settle_30 : decode b_MO_settle 30 = .ok (.iload 4, 2) := by decide +kernel
theorem d_MO_settle_32 : decode b_MO_settle 32 = .ok (.baload, 1) := by decide +kernel
theorem d_MO_settle_33 : decode b_MO_settle 33 = .ok (.ifCond .eq 62, 3) := by decide +kernel
theorem d_MO_settle_36 : decode b_MO_settle 36 = .ok (.aload_n 0, 1) := by decide +kernel
theorem d_MO_settle_37 : decode b_MO_settle 37 = .ok (.getfield 42, 3) := by decide +kernel
theorem d_MO_settle_40 : decode b_MO_settle 40 = .ok (.iload_n 2, 1) := by decide +kernel
theorem d_MO_settle_41 : decode b_MO_settle 41 = .ok (.aload_n 0, 1) := by decide +kernel
theorem d_MO_settle_42 : decode b_MO_settle 42 = .ok (.getfield 36, 3) := by decide +kernel
theorem d_MO_settle_45 : decode b_MO_settle 45 = .ok (.iload 4, 2) := by decide +kernel
theorem d_MO_settle_47 : decode b_MO_settle 47 = .ok (.iaload, 1) := by decide +kernel
theorem d_MO_settle_48 : decode b_MO_settle 48 = .ok (.ifCond .eq 16, 3) := by decide +kernel
theorem d_MO_settle_51 : decode b_MO_settle 51 = .ok (.aload_n 0, 1) := by decide +kernel
theorem d_MO_settle_52 : decode b_MO_settle 52 = .ok (.getfield 42, 3) := by decide +kernel
theorem d_MO_settle_55 : decode b_MO_settle 55 = .ok (.iload_n 2, 1) := by decide +kernel
theorem d_MO_settle_56 : decode b_MO_settle 56 = .ok (.iaload, 1) := by decide +kernel
theorem d_MO_settle_57 : decode b_MO_settle 57 = .ok (.iconst 1, 1) := by decide +kernel
theorem d_MO_settle_58 : decode b_MO_settle 58 = .ok (.iload_n 3, 1) := by decide +kernel
theorem d_MO_settle_59 : decode b_MO_settle 59 = .ok (.ishl, 1) := by decide +kernel
theorem d_MO_settle_60 : decode b_MO_settle 60 = .ok (.ior, 1) := by decide +kernel
theorem d_MO_settle_61 : decode b_MO_settle 61 = .ok (.goto 15, 3) := by decide +kernel
theorem d_MO_settle_64 : decode b_MO_settle 64 = .ok (.aload_n 0, 1) := by decide +kernel
theorem d_MO_settle_65 : decode b_MO_settle 65 = .ok (.getfield 42, 3) := by decide +kernel
theorem d_MO_settle_68 : decode b_MO_settle 68 = .ok (.iload_n 2, 1) := by decide +kernel
theorem d_MO_settle_69 : decode b_MO_settle 69 = .ok (.iaload, 1) := by decide +kernel
theorem d_MO_settle_70 : decode b_MO_settle 70 = .ok (.iconst 1, 1) := by decide +kernel
theorem d_MO_settle_71 : decode b_MO_settle 71 = .ok (.iload_n 3, 1) := by decide +kernel
theorem d_MO_settle_72 : decode b_MO_settle 72 = .ok (.ishl, 1) := by decide +kernel
theorem d_MO_settle_73 : decode b_MO_settle 73 = .ok (.iconst (-1), 1) := by decide +kernel
theorem d_MO_settle_74 : decode b_MO_settle 74 = .ok (.ixor, 1) := by decide +kernel
theorem d_MO_settle_75 : decode b_MO_settle 75 = .ok (.iand, 1) := by decide +kernel
theorem d_MO_settle_76 : decode b_MO_settle 76 = .ok (.iastore, 1) := by decide +kernel
theorem d_MO_settle_77 : decode b_MO_settle 77 = .ok (.aload_n 0, 1) := by decide +kernel
theorem d_MO_settle_78 : decode b_MO_settle 78 = .ok (.getfield 36, 3) := by decide +kernel
theorem d_MO_settle_81 : decode b_MO_settle 81 = .ok (.iload 4, 2) := by decide +kernel
theorem d_MO_settle_83 : decode b_MO_settle 83 = .ok (.iaload, 1) := by decide +kernel
theorem d_MO_settle_84 : decode b_MO_settle 84 = .ok (.ifCond .eq 9, 3) := by decide +kernel
theorem d_MO_settle_87 : decode b_MO_settle 87 = .ok (.iload_n 1, 1) := by decide +kernel
theorem d_MO_settle_88 : decode b_MO_settle 88 = .ok (.iconst 1, 1) := by decide +kernel
theorem d_MO_settle_89 : decode b_MO_settle 89 = .ok (.iadd, 1) := by decide +kernel
theorem d_MO_settle_90 : decode b_MO_settle 90 = .ok (.goto 4, 3) := by decide +kernel
theorem d_MO_settle_93 : decode b_MO_settle 93 = .ok (.iload_n 1, 1) := by decide +kernel
theorem d_MO_settle_94 : decode b_MO_settle 94 = .ok (.istore_n 1, 1) := by decide +kernel
theorem d_MO_settle_95 : decode b_MO_settle 95 = .ok (.iinc 3 1, 3) := by decide +kernel
theorem d_MO_settle_98 : decode b_MO_settle 98 = .ok (.goto (-86), 3) := by decide +kernel
theorem d_MO_settle_101 : decode b_MO_settle 101 = .ok (.aload_n 0, 1) := by decide +kernel
theorem d_MO_settle_102 : decode b_MO_settle 102 = .ok (.iload_n 2, 1) := by decide +kernel
theorem d_MO_settle_103 : decode b_MO_settle 103 = .ok (.invokevirtual 172, 3) := by decide +kernel
theorem d_MO_settle_106 : decode b_MO_settle 106 = .ok (.ifCond .eq 54, 3) := by decide +kernel
theorem d_MO_settle_109 : decode b_MO_settle 109 = .ok (.aload_n 0, 1) := by decide +kernel
theorem d_MO_settle_110 : decode b_MO_settle 110 = .ok (.aload_n 0, 1) := by decide +kernel
theorem d_MO_settle_111 : decode b_MO_settle 111 = .ok (.getfield 42, 3) := by decide +kernel
theorem d_MO_settle_114 : decode b_MO_settle 114 = .ok (.iload_n 2, 1) := by decide +kernel
theorem d_MO_settle_115 : decode b_MO_settle 115 = .ok (.iaload, 1) := by decide +kernel
theorem d_MO_settle_116 : decode b_MO_settle 116 = .ok (.ifCond .eq 14, 3) := by decide +kernel
theorem d_MO_settle_119 : decode b_MO_settle 119 = .ok (.aload_n 0, 1) := by decide +kernel
theorem d_MO_settle_120 : decode b_MO_settle 120 = .ok (.getfield 160, 3) := by decide +kernel
theorem d_MO_settle_123 : decode b_MO_settle 123 = .ok (.iconst 1, 1) := by decide +kernel
theorem d_MO_settle_124 : decode b_MO_settle 124 = .ok (.iload_n 2, 1) := by decide +kernel
theorem d_MO_settle_125 : decode b_MO_settle 125 = .ok (.ishl, 1) := by decide +kernel
theorem d_MO_settle_126 : decode b_MO_settle 126 = .ok (.ior, 1) := by decide +kernel
theorem d_MO_settle_127 : decode b_MO_settle 127 = .ok (.goto 13, 3) := by decide +kernel
theorem d_MO_settle_130 : decode b_MO_settle 130 = .ok (.aload_n 0, 1) := by decide +kernel
theorem d_MO_settle_131 : decode b_MO_settle 131 = .ok (.getfield 160, 3) := by decide +kernel
theorem d_MO_settle_134 : decode b_MO_settle 134 = .ok (.iconst 1, 1) := by decide +kernel
theorem d_MO_settle_135 : decode b_MO_settle 135 = .ok (.iload_n 2, 1) := by decide +kernel
theorem d_MO_settle_136 : decode b_MO_settle 136 = .ok (.ishl, 1) := by decide +kernel
theorem d_MO_settle_137 : decode b_MO_settle 137 = .ok (.iconst (-1), 1) := by decide +kernel
theorem d_MO_settle_138 : decode b_MO_settle 138 = .ok (.ixor, 1) := by decide +kernel
theorem d_MO_settle_139 : decode b_MO_settle 139 = .ok (.iand, 1) := by decide +kernel
theorem d_MO_settle_140 : decode b_MO_settle 140 = .ok (.putfield 160, 3) := by decide +kernel
theorem d_MO_settle_143 : decode b_MO_settle 143 = .ok (.aload_n 0, 1) := by decide +kernel
theorem d_MO_settle_144 : decode b_MO_settle 144 = .ok (.getfield 42, 3) := by decide +kernel
theorem d_MO_settle_147 : decode b_MO_settle 147 = .ok (.iload_n 2, 1) := by decide +kernel
theorem d_MO_settle_148 : decode b_MO_settle 148 = .ok (.iaload, 1) := by decide +kernel
theorem d_MO_settle_149 : decode b_MO_settle 149 = .ok (.ifCond .eq 9, 3) := by decide +kernel
theorem d_MO_settle_152 : decode b_MO_settle 152 = .ok (.iload_n 1, 1) := by decide +kernel
theorem d_MO_settle_153 : decode b_MO_settle 153 = .ok (.iconst 1, 1) := by decide +kernel
theorem d_MO_settle_154 : decode b_MO_settle 154 = .ok (.iadd, 1) := by decide +kernel
theorem d_MO_settle_155 : decode b_MO_settle 155 = .ok (.goto 4, 3) := by decide +kernel
theorem d_MO_settle_158 : decode b_MO_settle 158 = .ok (.iload_n 1, 1) := by decide +kernel
theorem d_MO_settle_159 : decode b_MO_settle 159 = .ok (.istore_n 1, 1) := by decide +kernel
theorem d_MO_settle_160 : decode b_MO_settle 160 = .ok (.iinc 2 1, 3) := by decide +kernel
theorem d_MO_settle_163 : decode b_MO_settle 163 = .ok (.goto (-159), 3) := by decide +kernel
theorem d_MO_settle_166 : decode b_MO_settle 166 = .ok (.aload_n 0, 1) := by decide +kernel
theorem d_MO_settle_167 : decode b_MO_settle 167 = .ok (.getfield 160, 3) := by decide +kernel
theorem d_MO_settle_170 : decode b_MO_settle 170 = .ok (.ifCond .eq 9, 3) := by decide +kernel
theorem d_MO_settle_173 : decode b_MO_settle 173 = .ok (.iload_n 1, 1) := by decide +kernel
theorem d_MO_settle_174 : decode b_MO_settle 174 = .ok (.iconst 1, 1) := by decide +kernel
theorem d_MO_settle_175 : decode b_MO_settle 175 = .ok (.iadd, 1) := by decide +kernel
theorem d_MO_settle_176 : decode b_MO_settle 176 = .ok (.goto 4, 3) := by decide +kernel
theorem d_MO_settle_179 : decode b_MO_settle 179 = .ok (.iload_n 1, 1) := by decide +kernel
theorem d_MO_settle_180 : decode b_MO_settle 180 = .ok (.ireturn, 1) := by decide +kernel
theorem d_MO_writeLeaf_0 : decode b_MO_writeLeaf 0 = .ok (.aload_n 0, 1) := by decide +kernel
theorem d_MO_writeLeaf_1 : decode b_MO_writeLeaf 1 = .ok (.getfield 45, 3) := by decide +kernel
theorem d_MO_writeLeaf_4 : decode b_MO_writeLeaf 4 = .ok (.iload_n 1, 1) := by decide +kernel
theorem d_MO_writeLeaf_5 : decode b_MO_writeLeaf 5 = .ok (.aload_n 0, 1) := by decide +kernel
theorem d_MO_writeLeaf_6 : decode b_MO_writeLeaf 6 = .ok (.getfield 154, 3) := by decide +kernel
theorem d_MO_writeLeaf_9 : decode b_MO_writeLeaf 9 = .ok (.iastore, 1) := by decide +kernel
theorem d_MO_writeLeaf_10 : decode b_MO_writeLeaf 10 = .ok (.aload_n 0, 1) := by decide +kernel
theorem d_MO_writeLeaf_11 : decode b_MO_writeLeaf 11 = .ok (.iconst 1, 1) := by decide +kernel
theorem d_MO_writeLeaf_12 : decode b_MO_writeLeaf 12 = .ok (.aload_n 0, 1) := by decide +kernel
theorem d_MO_writeLeaf_13 : decode b_MO_writeLeaf 13 = .ok (.getfield 36, 3) := by decide +kernel
theorem d_MO_writeLeaf_16 : decode b_MO_writeLeaf 16 = .ok (.iload_n 1, 1) := by decide +kernel
theorem d_MO_writeLeaf_17 : decode b_MO_writeLeaf 17 = .ok (.iaload, 1) := by decide +kernel
theorem d_MO_writeLeaf_18 : decode b_MO_writeLeaf 18 = .ok (.invokevirtual 178, 3) := by decide +kernel
theorem d_MO_writeLeaf_21 : decode b_MO_writeLeaf 21 = .ok (.iconst 0, 1) := by decide +kernel
theorem d_MO_writeLeaf_22 : decode b_MO_writeLeaf 22 = .ok (.istore_n 2, 1) := by decide +kernel
theorem d_MO_writeLeaf_23 : decode b_MO_writeLeaf 23 = .ok (.iload_n 2, 1) := by decide +kernel
theorem d_MO_writeLeaf_24 : decode b_MO_writeLeaf 24 = .ok (.bipush 8, 2) := by decide +kernel
theorem d_MO_writeLeaf_26 : decode b_MO_writeLeaf 26 = .ok (.if_icmp .ge 48, 3) := by decide +kernel
theorem d_MO_writeLeaf_29 : decode b_MO_writeLeaf 29 = .ok (.aload_n 0, 1) := by decide +kernel
theorem d_MO_writeLeaf_30 : decode b_MO_writeLeaf 30 = .ok (.bipush 8, 2) := by decide +kernel
theorem d_MO_writeLeaf_32 : decode b_MO_writeLeaf 32 = .ok (.iconst 4, 1) := by decide +kernel
theorem d_MO_writeLeaf_33 : decode b_MO_writeLeaf 33 = .ok (.iload_n 2, 1) := by decide +kernel
theorem d_MO_writeLeaf_34 : decode b_MO_writeLeaf 34 = .ok (.imul, 1) := by decide +kernel
theorem d_MO_writeLeaf_35 : decode b_MO_writeLeaf 35 = .ok (.iadd, 1) := by decide +kernel
theorem d_MO_writeLeaf_36 : decode b_MO_writeLeaf 36 = .ok (.aload_n 0, 1) := by decide +kernel
theorem d_MO_writeLeaf_37 : decode b_MO_writeLeaf 37 = .ok (.getfield 36, 3) := by decide +kernel
theorem d_MO_writeLeaf_40 : decode b_MO_writeLeaf 40 = .ok (.iload_n 1, 1) := by decide +kernel
theorem d_MO_writeLeaf_41 : decode b_MO_writeLeaf 41 = .ok (.iaload, 1) := by decide +kernel
theorem d_MO_writeLeaf_42 : decode b_MO_writeLeaf 42 = .ok (.iload_n 2, 1) := by decide +kernel
theorem d_MO_writeLeaf_43 : decode b_MO_writeLeaf 43 = .ok (.ishr, 1) := by decide +kernel
theorem d_MO_writeLeaf_44 : decode b_MO_writeLeaf 44 = .ok (.iconst 1, 1) := by decide +kernel
theorem d_MO_writeLeaf_45 : decode b_MO_writeLeaf 45 = .ok (.iand, 1) := by decide +kernel
theorem d_MO_writeLeaf_46 : decode b_MO_writeLeaf 46 = .ok (.iconst 1, 1) := by decide +kernel
theorem d_MO_writeLeaf_47 : decode b_MO_writeLeaf 47 = .ok (.if_icmp .ne 17, 3) := by decide +kernel
theorem d_MO_writeLeaf_50 : decode b_MO_writeLeaf 50 = .ok (.aload_n 0, 1) := by decide +kernel
theorem d_MO_writeLeaf_51 : decode b_MO_writeLeaf 51 = .ok (.getfield 39, 3) := by decide +kernel
theorem d_MO_writeLeaf_54 : decode b_MO_writeLeaf 54 = .ok (.bipush 8, 2) := by decide +kernel
theorem d_MO_writeLeaf_56 : decode b_MO_writeLeaf 56 = .ok (.iload_n 1, 1) := by decide +kernel
theorem d_MO_writeLeaf_57 : decode b_MO_writeLeaf 57 = .ok (.imul, 1) := by decide +kernel
theorem d_MO_writeLeaf_58 : decode b_MO_writeLeaf 58 = .ok (.iload_n 2, 1) := by decide +kernel
theorem d_MO_writeLeaf_59 : decode b_MO_writeLeaf 59 = .ok (.iadd, 1) := by decide +kernel
theorem d_MO_writeLeaf_60 : decode b_MO_writeLeaf 60 = .ok (.iaload, 1) := by decide +kernel
theorem d_MO_writeLeaf_61 : decode b_MO_writeLeaf 61 = .ok (.goto 4, 3) := by decide +kernel
theorem d_MO_writeLeaf_64 : decode b_MO_writeLeaf 64 = .ok (.iconst 0, 1) := by decide +kernel
theorem d_MO_writeLeaf_65 : decode b_MO_writeLeaf 65 = .ok (.invokevirtual 150, 3) := by decide +kernel
theorem d_MO_writeLeaf_68 : decode b_MO_writeLeaf 68 = .ok (.iinc 2 1, 3) := by decide +kernel
theorem d_MO_writeLeaf_71 : decode b_MO_writeLeaf 71 = .ok (.goto (-48), 3) := by decide +kernel
theorem d_MO_writeLeaf_74 : decode b_MO_writeLeaf 74 = .ok (.aload_n 0, 1) := by decide +kernel
theorem d_MO_writeLeaf_75 : decode b_MO_writeLeaf 75 = .ok (.invokevirtual 181, 3) := by decide +kernel
theorem d_MO_writeLeaf_78 : decode b_MO_writeLeaf 78 = .ok (.ireturn, 1) := by decide +kernel
theorem d_MO_writeNode_0 : decode b_MO_writeNode 0 = .ok (.aload_n 0, 1) := by decide +kernel
theorem d_MO_writeNode_1 : decode b_MO_writeNode 1 = .ok (.getfield 48, 3) := by decide +kernel
theorem d_MO_writeNode_4 : decode b_MO_writeNode 4 = .ok (.iload_n 1, 1) := by decide +kernel
theorem d_MO_writeNode_5 : decode b_MO_writeNode 5 = .ok (.aload_n 0, 1) := by decide +kernel
theorem d_MO_writeNode_6 : decode b_MO_writeNode 6 = .ok (.getfield 154, 3) := by decide +kernel
theorem d_MO_writeNode_9 : decode b_MO_writeNode 9 = .ok (.iastore, 1) := by decide +kernel
theorem d_MO_writeNode_10 : decode b_MO_writeNode 10 = .ok (.aload_n 0, 1) := by decide +kernel
theorem d_MO_writeNode_11 : decode b_MO_writeNode 11 = .ok (.iconst 2, 1) := by decide +kernel
theorem d_MO_writeNode_12 : decode b_MO_writeNode 12 = .ok (.aload_n 0, 1) := by decide +kernel
theorem d_MO_writeNode_13 : decode b_MO_writeNode 13 = .ok (.getfield 42, 3) := by decide +kernel
theorem d_MO_writeNode_16 : decode b_MO_writeNode 16 = .ok (.iload_n 1, 1) := by decide +kernel
theorem d_MO_writeNode_17 : decode b_MO_writeNode 17 = .ok (.iaload, 1) := by decide +kernel
theorem d_MO_writeNode_18 : decode b_MO_writeNode 18 = .ok (.invokevirtual 178, 3) := by decide +kernel
theorem d_MO_writeNode_21 : decode b_MO_writeNode 21 = .ok (.iconst 0, 1) := by decide +kernel
theorem d_MO_writeNode_22 : decode b_MO_writeNode 22 = .ok (.istore_n 2, 1) := by decide +kernel
theorem d_MO_writeNode_23 : decode b_MO_writeNode 23 = .ok (.iload_n 2, 1) := by decide +kernel
theorem d_MO_writeNode_24 : decode b_MO_writeNode 24 = .ok (.bipush 8, 2) := by decide +kernel
theorem d_MO_writeNode_26 : decode b_MO_writeNode 26 = .ok (.if_icmp .ge 48, 3) := by decide +kernel
theorem d_MO_writeNode_29 : decode b_MO_writeNode 29 = .ok (.aload_n 0, 1) := by decide +kernel
theorem d_MO_writeNode_30 : decode b_MO_writeNode 30 = .ok (.bipush 8, 2) := by decide +kernel
theorem d_MO_writeNode_32 : decode b_MO_writeNode 32 = .ok (.iconst 4, 1) := by decide +kernel
theorem d_MO_writeNode_33 : decode b_MO_writeNode 33 = .ok (.iload_n 2, 1) := by decide +kernel
theorem d_MO_writeNode_34 : decode b_MO_writeNode 34 = .ok (.imul, 1) := by decide +kernel
theorem d_MO_writeNode_35 : decode b_MO_writeNode 35 = .ok (.iadd, 1) := by decide +kernel
theorem d_MO_writeNode_36 : decode b_MO_writeNode 36 = .ok (.aload_n 0, 1) := by decide +kernel
theorem d_MO_writeNode_37 : decode b_MO_writeNode 37 = .ok (.getfield 42, 3) := by decide +kernel
theorem d_MO_writeNode_40 : decode b_MO_writeNode 40 = .ok (.iload_n 1, 1) := by decide +kernel
theorem d_MO_writeNode_41 : decode b_MO_writeNode 41 = .ok (.iaload, 1) := by decide +kernel
theorem d_MO_writeNode_42 : decode b_MO_writeNode 42 = .ok (.iload_n 2, 1) := by decide +kernel
theorem d_MO_writeNode_43 : decode b_MO_writeNode 43 = .ok (.ishr, 1) := by decide +kernel
theorem d_MO_writeNode_44 : decode b_MO_writeNode 44 = .ok (.iconst 1, 1) := by decide +kernel
theorem d_MO_writeNode_45 : decode b_MO_writeNode 45 = .ok (.iand, 1) := by decide +kernel
theorem d_MO_writeNode_46 : decode b_MO_writeNode 46 = .ok (.iconst 1, 1) := by decide +kernel
theorem d_MO_writeNode_47 : decode b_MO_writeNode 47 = .ok (.if_icmp .ne 17, 3) := by decide +kernel
theorem d_MO_writeNode_50 : decode b_MO_writeNode 50 = .ok (.aload_n 0, 1) := by decide +kernel
theorem d_MO_writeNode_51 : decode b_MO_writeNode 51 = .ok (.getfield 45, 3) := by decide +kernel
theorem d_MO_writeNode_54 : decode b_MO_writeNode 54 = .ok (.bipush 8, 2) := by decide +kernel
theorem d_MO_writeNode_56 : decode b_MO_writeNode 56 = .ok (.iload_n 1, 1) := by decide +kernel
theorem d_MO_writeNode_57 : decode b_MO_writeNode 57 = .ok (.imul, 1) := by decide +kernel
theorem d_MO_writeNode_58 : decode b_MO_writeNode 58 = .ok (.iload_n 2, 1) := by decide +kernel
theorem d_MO_writeNode_59 : decode b_MO_writeNode 59 = .ok (.iadd, 1) := by decide +kernel
theorem d_MO_writeNode_60 : decode b_MO_writeNode 60 = .ok (.iaload, 1) := by decide +kernel
theorem d_MO_writeNode_61 : decode b_MO_writeNode 61 = .ok (.goto 4, 3) := by decide +kernel
theorem d_MO_writeNode_64 : decode b_MO_writeNode 64 = .ok (.iconst 0, 1) := by decide +kernel
theorem d_MO_writeNode_65 : decode b_MO_writeNode 65 = .ok (.invokevirtual 150, 3) := by decide +kernel
theorem d_MO_writeNode_68 : decode b_MO_writeNode 68 = .ok (.iinc 2 1, 3) := by decide +kernel
theorem d_MO_writeNode_71 : decode b_MO_writeNode 71 = .ok (.goto (-48), 3) := by decide +kernel
theorem d_MO_writeNode_74 : decode b_MO_writeNode 74 = .ok (.aload_n 0, 1) := by decide +kernel
theorem d_MO_writeNode_75 : decode b_MO_writeNode 75 = .ok (.invokevirtual 181, 3) := by decide +kernel
theorem d_MO_writeNode_78 : decode b_MO_writeNode 78 = .ok (.ireturn, 1) := by decide +kernel
theorem d_MO_writeTop_0 : decode b_MO_writeTop 0 = .ok (.aload_n 0, 1) := by decide +kernel
theorem d_MO_writeTop_1 : decode b_MO_writeTop 1 = .ok (.iconst 3, 1) := by decide +kernel
theorem d_MO_writeTop_2 : decode b_MO_writeTop 2 = .ok (.aload_n 0, 1) := by decide +kernel
theorem d_MO_writeTop_3 : decode b_MO_writeTop 3 = .ok (.getfield 160, 3) := by decide +kernel
theorem d_MO_writeTop_6 : decode b_MO_writeTop 6 = .ok (.invokevirtual 178, 3) := by decide +kernel
theorem d_MO_writeTop_9 : decode b_MO_writeTop 9 = .ok (.iconst 0, 1) := by decide +kernel
theorem d_MO_writeTop_10 : decode b_MO_writeTop 10 = .ok (.istore_n 1, 1) := by decide +kernel
theorem d_MO_writeTop_11 : decode b_MO_writeTop 11 = .ok (.iload_n 1, 1) := by decide +kernel
theorem d_MO_writeTop_12 : decode b_MO_writeTop 12 = .ok (.bipush 8, 2) := by decide +kernel
theorem d_MO_writeTop_14 : decode b_MO_writeTop 14 = .ok (.if_icmp .ge 41, 3) := by decide +kernel
theorem d_MO_writeTop_17 : decode b_MO_writeTop 17 = .ok (.aload_n 0, 1) := by decide +kernel
theorem d_MO_writeTop_18 : decode b_MO_writeTop 18 = .ok (.bipush 8, 2) := by decide +kernel
theorem d_MO_writeTop_20 : decode b_MO_writeTop 20 = .ok (.iconst 4, 1) := by decide +kernel
theorem d_MO_writeTop_21 : decode b_MO_writeTop 21 = .ok (.iload_n 1, 1) := by decide +kernel
theorem d_MO_writeTop_22 : decode b_MO_writeTop 22 = .ok (.imul, 1) := by decide +kernel
theorem d_MO_writeTop_23 : decode b_MO_writeTop 23 = .ok (.iadd, 1) := by decide +kernel
theorem d_MO_writeTop_24 : decode b_MO_writeTop 24 = .ok (.aload_n 0, 1) := by decide +kernel
theorem d_MO_writeTop_25 : decode b_MO_writeTop 25 = .ok (.getfield 160, 3) := by decide +kernel
theorem d_MO_writeTop_28 : decode b_MO_writeTop 28 = .ok (.iload_n 1, 1) := by decide +kernel
theorem d_MO_writeTop_29 : decode b_MO_writeTop 29 = .ok (.ishr, 1) := by decide +kernel
theorem d_MO_writeTop_30 : decode b_MO_writeTop 30 = .ok (.iconst 1, 1) := by decide +kernel
theorem d_MO_writeTop_31 : decode b_MO_writeTop 31 = .ok (.iand, 1) := by decide +kernel
theorem d_MO_writeTop_32 : decode b_MO_writeTop 32 = .ok (.iconst 1, 1) := by decide +kernel
theorem d_MO_writeTop_33 : decode b_MO_writeTop 33 = .ok (.if_icmp .ne 12, 3) := by decide +kernel
theorem d_MO_writeTop_36 : decode b_MO_writeTop 36 = .ok (.aload_n 0, 1) := by decide +kernel
theorem d_MO_writeTop_37 : decode b_MO_writeTop 37 = .ok (.getfield 48, 3) := by decide +kernel
theorem d_MO_writeTop_40 : decode b_MO_writeTop 40 = .ok (.iload_n 1, 1) := by decide +kernel
theorem d_MO_writeTop_41 : decode b_MO_writeTop 41 = .ok (.iaload, 1) := by decide +kernel
theorem d_MO_writeTop_42 : decode b_MO_writeTop 42 = .ok (.goto 4, 3) := by decide +kernel
theorem d_MO_writeTop_45 : decode b_MO_writeTop 45 = .ok (.iconst 0, 1) := by decide +kernel
theorem d_MO_writeTop_46 : decode b_MO_writeTop 46 = .ok (.invokevirtual 150, 3) := by decide +kernel
theorem d_MO_writeTop_49 : decode b_MO_writeTop 49 = .ok (.iinc 1 1, 3) := by decide +kernel
theorem d_MO_writeTop_52 : decode b_MO_writeTop 52 = .ok (.goto (-41), 3) := by decide +kernel
theorem d_MO_writeTop_55 : decode b_MO_writeTop 55 = .ok (.aload_n 0, 1) := by decide +kernel
theorem d_MO_writeTop_56 : decode b_MO_writeTop 56 = .ok (.invokevirtual 181, 3) := by decide +kernel
theorem d_MO_writeTop_59 : decode b_MO_writeTop 59 = .ok (.ireturn, 1) := by decide +kernel
theorem d_MO_writeRoot_0 : decode b_MO_writeRoot 0 = .ok (.aload_n 0, 1) := by decide +kernel
theorem d_MO_writeRoot_1 : decode b_MO_writeRoot 1 = .ok (.getfield 154, 3) := by decide +kernel
theorem d_MO_writeRoot_4 : decode b_MO_writeRoot 4 = .ok (.iconst 1, 1) := by decide +kernel
theorem d_MO_writeRoot_5 : decode b_MO_writeRoot 5 = .ok (.isub, 1) := by decide +kernel
theorem d_MO_writeRoot_6 : decode b_MO_writeRoot 6 = .ok (.istore_n 2, 1) := by decide +kernel
theorem d_MO_writeRoot_7 : decode b_MO_writeRoot 7 = .ok (.aload_n 0, 1) := by decide +kernel
theorem d_MO_writeRoot_8 : decode b_MO_writeRoot 8 = .ok (.iconst 4, 1) := by decide +kernel
theorem d_MO_writeRoot_9 : decode b_MO_writeRoot 9 = .ok (.aload_n 0, 1) := by decide +kernel
theorem d_MO_writeRoot_10 : decode b_MO_writeRoot 10 = .ok (.getfield 160, 3) := by decide +kernel
theorem d_MO_writeRoot_13 : decode b_MO_writeRoot 13 = .ok (.ifCond .eq 7, 3) := by decide +kernel
theorem d_MO_writeRoot_16 : decode b_MO_writeRoot 16 = .ok (.iconst 1, 1) := by decide +kernel
theorem d_MO_writeRoot_17 : decode b_MO_writeRoot 17 = .ok (.goto 4, 3) := by decide +kernel
theorem d_MO_writeRoot_20 : decode b_MO_writeRoot 20 = .ok (.iconst 0, 1) := by decide +kernel
theorem d_MO_writeRoot_21 : decode b_MO_writeRoot 21 = .ok (.invokevirtual 178, 3) := by decide +kernel
theorem d_MO_writeRoot_24 : decode b_MO_writeRoot 24 = .ok (.aload_n 0, 1) := by decide +kernel
theorem d_MO_writeRoot_25 : decode b_MO_writeRoot 25 = .ok (.bipush 8, 2) := by decide +kernel
theorem d_MO_writeRoot_27 : decode b_MO_writeRoot 27 = .ok (.aload_n 0, 1) := by decide +kernel
theorem d_MO_writeRoot_28 : decode b_MO_writeRoot 28 = .ok (.getfield 160, 3) := by decide +kernel
theorem d_MO_writeRoot_31 : decode b_MO_writeRoot 31 = .ok (.ifCond .eq 7, 3) := by decide +kernel
theorem d_MO_writeRoot_34 : decode b_MO_writeRoot 34 = .ok (.iload_n 2, 1) := by decide +kernel
theorem d_MO_writeRoot_35 : decode b_MO_writeRoot 35 = .ok (.goto 4, 3) := by decide +kernel
theorem d_MO_writeRoot_38 : decode b_MO_writeRoot 38 = .ok (.iconst 0, 1) := by decide +kernel
theorem d_MO_writeRoot_39 : decode b_MO_writeRoot 39 = .ok (.invokevirtual 150, 3) := by decide +kernel
theorem d_MO_writeRoot_42 : decode b_MO_writeRoot 42 = .ok (.aload_n 0, 1) := by decide +kernel
theorem d_MO_writeRoot_43 : decode b_MO_writeRoot 43 = .ok (.bipush 12, 2) := by decide +kernel
theorem d_MO_writeRoot_45 : decode b_MO_writeRoot 45 = .ok (.aload_n 0, 1) := by decide +kernel
theorem d_MO_writeRoot_46 : decode b_MO_writeRoot 46 = .ok (.getfield 166, 3) := by decide +kernel
theorem d_MO_writeRoot_49 : decode b_MO_writeRoot 49 = .ok (.invokevirtual 150, 3) := by decide +kernel
theorem d_MO_writeRoot_52 : decode b_MO_writeRoot 52 = .ok (.aload_n 0, 1) := by decide +kernel
theorem d_MO_writeRoot_53 : decode b_MO_writeRoot 53 = .ok (.bipush 16, 2) := by decide +kernel
theorem d_MO_writeRoot_55 : decode b_MO_writeRoot 55 = .ok (.iload_n 1, 1) := by decide +kernel
theorem d_MO_writeRoot_56 : decode b_MO_writeRoot 56 = .ok (.invokevirtual 150, 3) := by decide +kernel
theorem d_MO_writeRoot_59 : decode b_MO_writeRoot 59 = .ok (.aload_n 0, 1) := by decide +kernel
theorem d_MO_writeRoot_60 : decode b_MO_writeRoot 60 = .ok (.invokevirtual 181, 3) := by decide +kernel
theorem d_MO_writeRoot_63 : decode b_MO_writeRoot 63 = .ok (.ireturn, 1) := by decide +kernel
theorem d_MO_writeAll_0 : decode b_MO_writeAll 0 = .ok (.aload_n 0, 1) := by decide +kernel
theorem d_MO_writeAll_1 : decode b_MO_writeAll 1 = .ok (.aload_n 0, 1) := by decide +kernel
theorem d_MO_writeAll_2 : decode b_MO_writeAll 2 = .ok (.getfield 67, 3) := by decide +kernel
theorem d_MO_writeAll_5 : decode b_MO_writeAll 5 = .ok (.putfield 154, 3) := by decide +kernel
theorem d_MO_writeAll_8 : decode b_MO_writeAll 8 = .ok (.iconst 1, 1) := by decide +kernel
theorem d_MO_writeAll_9 : decode b_MO_writeAll 9 = .ok (.istore_n 2, 1) := by decide +kernel
theorem d_MO_writeAll_10 : decode b_MO_writeAll 10 = .ok (.iconst 0, 1) := by decide +kernel
theorem d_MO_writeAll_11 : decode b_MO_writeAll 11 = .ok (.istore_n 3, 1) := by decide +kernel
theorem d_MO_writeAll_12 : decode b_MO_writeAll 12 = .ok (.iload_n 3, 1) := by decide +kernel
theorem d_MO_writeAll_13 : decode b_MO_writeAll 13 = .ok (.bipush 64, 2) := by decide +kernel
theorem d_MO_writeAll_15 : decode b_MO_writeAll 15 = .ok (.if_icmp .ge 45, 3) := by decide +kernel
theorem d_MO_writeAll_18 : decode b_MO_writeAll 18 = .ok (.iload_n 2, 1) := by decide +kernel
theorem d_MO_writeAll_19 : decode b_MO_writeAll 19 = .ok (.ifCond .eq 41, 3) := by decide +kernel
theorem d_MO_writeAll_22 : decode b_MO_writeAll 22 = .ok (.aload_n 0, 1) := by decide +kernel
theorem d_MO_writeAll_23 : decode b_MO_writeAll 23 = .ok (.getfield 33, 3) := by decide +kernel
theorem d_MO_writeAll_26 : decode b_MO_writeAll 26 = .ok (.iload_n 3, 1) := by decide +kernel
theorem d_MO_writeAll_27 : decode b_MO_writeAll 27 = .ok (.baload, 1) := by decide +kernel
theorem d_MO_writeAll_28 : decode b_MO_writeAll 28 = .ok (.ifCond .eq 20, 3) := by decide +kernel
theorem d_MO_writeAll_31 : decode b_MO_writeAll 31 = .ok (.aload_n 0, 1) := by decide +kernel
theorem d_MO_writeAll_32 : decode b_MO_writeAll 32 = .ok (.getfield 36, 3) := by decide +kernel
theorem d_MO_writeAll_35 : decode b_MO_writeAll 35 = .ok (.iload_n 3, 1) := by decide +kernel
theorem d_MO_writeAll_36 : decode b_MO_writeAll 36 = .ok (.iaload, 1) := by decide +kernel
theorem d_MO_writeAll_37 : decode b_MO_writeAll 37 = .ok (.ifCond .eq 11, 3) := by decide +kernel
theorem d_MO_writeAll_40 : decode b_MO_writeAll 40 = .ok (.aload_n 0, 1) := by decide +kernel
theorem d_MO_writeAll_41 : decode b_MO_writeAll 41 = .ok (.iload_n 3, 1) := by decide +kernel
theorem d_MO_writeAll_42 : decode b_MO_writeAll 42 = .ok (.invokevirtual 184, 3) := by decide +kernel
theorem d_MO_writeAll_45 : decode b_MO_writeAll 45 = .ok (.ifCond .eq 7, 3) := by decide +kernel
theorem d_MO_writeAll_48 : decode b_MO_writeAll 48 = .ok (.iconst 1, 1) := by decide +kernel
theorem d_MO_writeAll_49 : decode b_MO_writeAll 49 = .ok (.goto 4, 3) := by decide +kernel
theorem d_MO_writeAll_52 : decode b_MO_writeAll 52 = .ok (.iconst 0, 1) := by decide +kernel
theorem d_MO_writeAll_53 : decode b_MO_writeAll 53 = .ok (.istore_n 2, 1) := by decide +kernel
theorem d_MO_writeAll_54 : decode b_MO_writeAll 54 = .ok (.iinc 3 1, 3) := by decide +kernel
theorem d_MO_writeAll_57 : decode b_MO_writeAll 57 = .ok (.goto (-45), 3) := by decide +kernel
theorem d_MO_writeAll_60 : decode b_MO_writeAll 60 = .ok (.iconst 0, 1) := by decide +kernel
theorem d_MO_writeAll_61 : decode b_MO_writeAll 61 = .ok (.istore_n 3, 1) := by decide +kernel
theorem d_MO_writeAll_62 : decode b_MO_writeAll 62 = .ok (.iload_n 3, 1) := by decide +kernel
theorem d_MO_writeAll_63 : decode b_MO_writeAll 63 = .ok (.bipush 8, 2) := by decide +kernel
theorem d_MO_writeAll_65 : decode b_MO_writeAll 65 = .ok (.if_icmp .ge 44, 3) := by decide +kernel
theorem d_MO_writeAll_68 : decode b_MO_writeAll 68 = .ok (.iload_n 2, 1) := by decide +kernel
theorem d_MO_writeAll_69 : decode b_MO_writeAll 69 = .ok (.ifCond .eq 40, 3) := by decide +kernel
theorem d_MO_writeAll_72 : decode b_MO_writeAll 72 = .ok (.aload_n 0, 1) := by decide +kernel
theorem d_MO_writeAll_73 : decode b_MO_writeAll 73 = .ok (.iload_n 3, 1) := by decide +kernel
theorem d_MO_writeAll_74 : decode b_MO_writeAll 74 = .ok (.invokevirtual 172, 3) := by decide +kernel
theorem d_MO_writeAll_77 : decode b_MO_writeAll 77 = .ok (.ifCond .eq 20, 3) := by decide +kernel
theorem d_MO_writeAll_80 : decode b_MO_writeAll 80 = .ok (.aload_n 0, 1) := by decide +kernel
theorem d_MO_writeAll_81 : decode b_MO_writeAll 81 = .ok (.getfield 42, 3) := by decide +kernel
theorem d_MO_writeAll_84 : decode b_MO_writeAll 84 = .ok (.iload_n 3, 1) := by decide +kernel
theorem d_MO_writeAll_85 : decode b_MO_writeAll 85 = .ok (.iaload, 1) := by decide +kernel
theorem d_MO_writeAll_86 : decode b_MO_writeAll 86 = .ok (.ifCond .eq 11, 3) := by decide +kernel
theorem d_MO_writeAll_89 : decode b_MO_writeAll 89 = .ok (.aload_n 0, 1) := by decide +kernel
theorem d_MO_writeAll_90 : decode b_MO_writeAll 90 = .ok (.iload_n 3, 1) := by decide +kernel
theorem d_MO_writeAll_91 : decode b_MO_writeAll 91 = .ok (.invokevirtual 187, 3) := by decide +kernel
theorem d_MO_writeAll_94 : decode b_MO_writeAll 94 = .ok (.ifCond .eq 7, 3) := by decide +kernel
theorem d_MO_writeAll_97 : decode b_MO_writeAll 97 = .ok (.iconst 1, 1) := by decide +kernel
theorem d_MO_writeAll_98 : decode b_MO_writeAll 98 = .ok (.goto 4, 3) := by decide +kernel
theorem d_MO_writeAll_101 : decode b_MO_writeAll 101 = .ok (.iconst 0, 1) := by decide +kernel
theorem d_MO_writeAll_102 : decode b_MO_writeAll 102 = .ok (.istore_n 2, 1) := by decide +kernel
theorem d_MO_writeAll_103 : decode b_MO_writeAll 103 = .ok (.iinc 3 1, 3) := by decide +kernel
theorem d_MO_writeAll_106 : decode b_MO_writeAll 106 = .ok (.goto (-44), 3) := by decide +kernel
theorem d_MO_writeAll_109 : decode b_MO_writeAll 109 = .ok (.iload_n 2, 1) := by decide +kernel
theorem d_MO_writeAll_110 : decode b_MO_writeAll 110 = .ok (.ifCond .eq 29, 3) := by decide +kernel
theorem d_MO_writeAll_113 : decode b_MO_writeAll 113 = .ok (.aload_n 0, 1) := by decide +kernel
theorem d_MO_writeAll_114 : decode b_MO_writeAll 114 = .ok (.getfield 160, 3) := by decide +kernel
theorem d_MO_writeAll_117 : decode b_MO_writeAll 117 = .ok (.ifCond .eq 10, 3) := by decide +kernel
theorem d_MO_writeAll_120 : decode b_MO_writeAll 120 = .ok (.aload_n 0, 1) := by decide +kernel
theorem d_MO_writeAll_121 : decode b_MO_writeAll 121 = .ok (.invokevirtual 190, 3) := by decide +kernel
theorem d_MO_writeAll_124 : decode b_MO_writeAll 124 = .ok (.ifCond .eq 15, 3) := by decide +kernel
theorem d_MO_writeAll_127 : decode b_MO_writeAll 127 = .ok (.aload_n 0, 1) := by decide +kernel
theorem d_MO_writeAll_128 : decode b_MO_writeAll 128 = .ok (.iload_n 1, 1) := by decide +kernel
theorem d_MO_writeAll_129 : decode b_MO_writeAll 129 = .ok (.invokevirtual 193, 3) := by decide +kernel
theorem d_MO_writeAll_132 : decode b_MO_writeAll 132 = .ok (.ifCond .eq 7, 3) := by decide +kernel
theorem d_MO_writeAll_135 : decode b_MO_writeAll 135 = .ok (.iconst 1, 1) := by decide +kernel
theorem d_MO_writeAll_136 : decode b_MO_writeAll 136 = .ok (.goto 4, 3) := by decide +kernel
theorem d_MO_writeAll_139 : decode b_MO_writeAll 139 = .ok (.iconst 0, 1) := by decide +kernel
theorem d_MO_writeAll_140 : decode b_MO_writeAll 140 = .ok (.istore_n 2, 1) := by decide +kernel
theorem d_MO_writeAll_141 : decode b_MO_writeAll 141 = .ok (.iload_n 2, 1) := by decide +kernel
theorem d_MO_writeAll_142 : decode b_MO_writeAll 142 = .ok (.ifCond .ne 6, 3) := by decide +kernel
theorem d_MO_writeAll_145 : decode b_MO_writeAll 145 = .ok (.bipush (-4), 2) := by decide +kernel
theorem d_MO_writeAll_147 : decode b_MO_writeAll 147 = .ok (.ireturn, 1) := by decide +kernel
theorem d_MO_writeAll_148 : decode b_MO_writeAll 148 = .ok (.aload_n 0, 1) := by decide +kernel
theorem d_MO_writeAll_149 : decode b_MO_writeAll 149 = .ok (.aload_n 0, 1) := by decide +kernel
theorem d_MO_writeAll_150 : decode b_MO_writeAll 150 = .ok (.getfield 154, 3) := by decide +kernel
theorem d_MO_writeAll_153 : decode b_MO_writeAll 153 = .ok (.putfield 67, 3) := by decide +kernel
theorem d_MO_writeAll_156 : decode b_MO_writeAll 156 = .ok (.aload_n 0, 1) := by decide +kernel
theorem d_MO_writeAll_157 : decode b_MO_writeAll 157 = .ok (.iload_n 1, 1) := by decide +kernel
theorem d_MO_writeAll_158 : decode b_MO_writeAll 158 = .ok (.putfield 64, 3) := by decide +kernel
theorem d_MO_writeAll_161 : decode b_MO_writeAll 161 = .ok (.aload_n 0, 1) := by decide +kernel
theorem d_MO_writeAll_162 : decode b_MO_writeAll 162 = .ok (.dup, 1) := by decide +kernel
theorem d_MO_writeAll_163 : decode b_MO_writeAll 163 = .ok (.getfield 137, 3) := by decide +kernel
theorem d_MO_writeAll_166 : decode b_MO_writeAll 166 = .ok (.iconst 1, 1) := by decide +kernel
theorem d_MO_writeAll_167 : decode b_MO_writeAll 167 = .ok (.iadd, 1) := by decide +kernel
theorem d_MO_writeAll_168 : decode b_MO_writeAll 168 = .ok (.putfield 137, 3) := by decide +kernel
theorem d_MO_writeAll_171 : decode b_MO_writeAll 171 = .ok (.iconst 0, 1) := by decide +kernel
theorem d_MO_writeAll_172 : decode b_MO_writeAll 172 = .ok (.istore_n 3, 1) := by decide +kernel
theorem d_MO_writeAll_173 : decode b_MO_writeAll 173 = .ok (.iconst 0, 1) := by decide +kernel
theorem d_MO_writeAll_174 : decode b_MO_writeAll 174 = .ok (.istore 4, 2) := by decide +kernel
theorem d_MO_writeAll_176 : decode b_MO_writeAll 176 = .ok (.iload 4, 2) := by decide +kernel
theorem d_MO_writeAll_178 : decode b_MO_writeAll 178 = .ok (.aload_n 0, 1) := by decide +kernel
theorem d_MO_writeAll_179 : decode b_MO_writeAll 179 = .ok (.getfield 116, 3) := by decide +kernel
theorem d_MO_writeAll_182 : decode b_MO_writeAll 182 = .ok (.if_icmp .ge 52, 3) := by decide +kernel
theorem d_MO_writeAll_185 : decode b_MO_writeAll 185 = .ok (.aload_n 0, 1) := by decide +kernel
theorem d_MO_writeAll_186 : decode b_MO_writeAll 186 = .ok (.getfield 24, 3) := by decide +kernel
theorem d_MO_writeAll_189 : decode b_MO_writeAll 189 = .ok (.iload 4, 2) := by decide +kernel
theorem d_MO_writeAll_191 : decode b_MO_writeAll 191 = .ok (.iaload, 1) := by decide +kernel
theorem d_MO_writeAll_192 : decode b_MO_writeAll 192 = .ok (.aload_n 0, 1) := by decide +kernel
theorem d_MO_writeAll_193 : decode b_MO_writeAll 193 = .ok (.getfield 64, 3) := by decide +kernel
theorem d_MO_writeAll_196 : decode b_MO_writeAll 196 = .ok (.if_icmp .lt 32, 3) := by decide +kernel
theorem d_MO_writeAll_199 : decode b_MO_writeAll 199 = .ok (.aload_n 0, 1) := by decide +kernel
theorem d_MO_writeAll_200 : decode b_MO_writeAll 200 = .ok (.getfield 21, 3) := by decide +kernel
theorem d_MO_writeAll_203 : decode b_MO_writeAll 203 = .ok (.iload_n 3, 1) := by decide +kernel
theorem d_MO_writeAll_204 : decode b_MO_writeAll 204 = .ok (.aload_n 0, 1) := by decide +kernel
theorem d_MO_writeAll_205 : decode b_MO_writeAll 205 = .ok (.getfield 21, 3) := by decide +kernel
theorem d_MO_writeAll_208 : decode b_MO_writeAll 208 = .ok (.iload 4, 2) := by decide +kernel
theorem d_MO_writeAll_210 : decode b_MO_writeAll 210 = .ok (.iaload, 1) := by decide +kernel
theorem d_MO_writeAll_211 : decode b_MO_writeAll 211 = .ok (.iastore, 1) := by decide +kernel
theorem d_MO_writeAll_212 : decode b_MO_writeAll 212 = .ok (.aload_n 0, 1) := by decide +kernel
theorem d_MO_writeAll_213 : decode b_MO_writeAll 213 = .ok (.getfield 24, 3) := by decide +kernel
theorem d_MO_writeAll_216 : decode b_MO_writeAll 216 = .ok (.iload_n 3, 1) := by decide +kernel
theorem d_MO_writeAll_217 : decode b_MO_writeAll 217 = .ok (.aload_n 0, 1) := by decide +kernel
theorem d_MO_writeAll_218 : decode b_MO_writeAll 218 = .ok (.getfield 24, 3) := by decide +kernel
theorem d_MO_writeAll_221 : decode b_MO_writeAll 221 = .ok (.iload 4, 2) := by decide +kernel
theorem d_MO_writeAll_223 : decode b_MO_writeAll 223 = .ok (.iaload, 1) := by decide +kernel
theorem d_MO_writeAll_224 : decode b_MO_writeAll 224 = .ok (.iastore, 1) := by decide +kernel
theorem d_MO_writeAll_225 : decode b_MO_writeAll 225 = .ok (.iinc 3 1, 3) := by decide +kernel
theorem d_MO_writeAll_228 : decode b_MO_writeAll 228 = .ok (.iinc 4 1, 3) := by decide +kernel
theorem d_MO_writeAll_231 : decode b_MO_writeAll 231 = .ok (.goto (-55), 3) := by decide +kernel
theorem d_MO_writeAll_234 : decode b_MO_writeAll 234 = .ok (.aload_n 0, 1) := by decide +kernel
theorem d_MO_writeAll_235 : decode b_MO_writeAll 235 = .ok (.getfield 21, 3) := by decide +kernel
theorem d_MO_writeAll_238 : decode b_MO_writeAll 238 = .ok (.iload_n 3, 1) := by decide +kernel
theorem d_MO_writeAll_239 : decode b_MO_writeAll 239 = .ok (.aload_n 0, 1) := by decide +kernel
theorem d_MO_writeAll_240 : decode b_MO_writeAll 240 = .ok (.getfield 137, 3) := by decide +kernel
theorem d_MO_writeAll_243 : decode b_MO_writeAll 243 = .ok (.iastore, 1) := by decide +kernel
theorem d_MO_writeAll_244 : decode b_MO_writeAll 244 = .ok (.aload_n 0, 1) := by decide +kernel
theorem d_MO_writeAll_245 : decode b_MO_writeAll 245 = .ok (.getfield 24, 3) := by decide +kernel
theorem d_MO_writeAll_248 : decode b_MO_writeAll 248 = .ok (.iload_n 3, 1) := by decide +kernel
theorem d_MO_writeAll_249 : decode b_MO_writeAll 249 = .ok (.aload_n 0, 1) := by decide +kernel
theorem d_MO_writeAll_250 : decode b_MO_writeAll 250 = .ok (.getfield 67, 3) := by decide +kernel
theorem d_MO_writeAll_253 : decode b_MO_writeAll 253 = .ok (.iconst 1, 1) := by decide +kernel
theorem d_MO_writeAll_254 : decode b_MO_writeAll 254 = .ok (.isub, 1) := by decide +kernel
theorem d_MO_writeAll_255 : decode b_MO_writeAll 255 = .ok (.iastore, 1) := by decide +kernel
theorem d_MO_writeAll_256 : decode b_MO_writeAll 256 = .ok (.aload_n 0, 1) := by decide +kernel
theorem d_MO_writeAll_257 : decode b_MO_writeAll 257 = .ok (.iload_n 3, 1) := by decide +kernel
theorem d_MO_writeAll_258 : decode b_MO_writeAll 258 = .ok (.iconst 1, 1) := by decide +kernel
theorem d_MO_writeAll_259 : decode b_MO_writeAll 259 = .ok (.iadd, 1) := by decide +kernel
theorem d_MO_writeAll_260 : decode b_MO_writeAll 260 = .ok (.putfield 116, 3) := by decide +kernel
theorem d_MO_writeAll_263 : decode b_MO_writeAll 263 = .ok (.aload_n 0, 1) := by decide +kernel
theorem d_MO_writeAll_264 : decode b_MO_writeAll 264 = .ok (.getfield 137, 3) := by decide +kernel
theorem d_MO_writeAll_267 : decode b_MO_writeAll 267 = .ok (.ireturn, 1) := by decide +kernel
theorem d_MO_commit_0 : decode b_MO_commit 0 = .ok (.aload_n 0, 1) := by decide +kernel
theorem d_MO_commit_1 : decode b_MO_commit 1 = .ok (.invokevirtual 109, 3) := by decide +kernel
theorem d_MO_commit_4 : decode b_MO_commit 4 = .ok (.ifCond .ne 5, 3) := by decide +kernel
theorem d_MO_commit_7 : decode b_MO_commit 7 = .ok (.iconst 0, 1) := by decide +kernel
theorem d_MO_commit_8 : decode b_MO_commit 8 = .ok (.ireturn, 1) := by decide +kernel
theorem d_MO_commit_9 : decode b_MO_commit 9 = .ok (.aload_n 0, 1) := by decide +kernel
theorem d_MO_commit_10 : decode b_MO_commit 10 = .ok (.getfield 95, 3) := by decide +kernel
theorem d_MO_commit_13 : decode b_MO_commit 13 = .ok (.ifCond .ne 8, 3) := by decide +kernel
theorem d_MO_commit_16 : decode b_MO_commit 16 = .ok (.aload_n 0, 1) := by decide +kernel
theorem d_MO_commit_17 : decode b_MO_commit 17 = .ok (.getfield 137, 3) := by decide +kernel
theorem d_MO_commit_20 : decode b_MO_commit 20 = .ok (.ireturn, 1) := by decide +kernel
theorem d_MO_commit_21 : decode b_MO_commit 21 = .ok (.iconst 0, 1) := by decide +kernel
theorem d_MO_commit_22 : decode b_MO_commit 22 = .ok (.istore_n 1, 1) := by decide +kernel
theorem d_MO_commit_23 : decode b_MO_commit 23 = .ok (.iload_n 1, 1) := by decide +kernel
theorem d_MO_commit_24 : decode b_MO_commit 24 = .ok (.bipush 64, 2) := by decide +kernel
theorem d_MO_commit_26 : decode b_MO_commit 26 = .ok (.if_icmp .ge 16, 3) := by decide +kernel
theorem d_MO_commit_29 : decode b_MO_commit 29 = .ok (.aload_n 0, 1) := by decide +kernel
theorem d_MO_commit_30 : decode b_MO_commit 30 = .ok (.getfield 33, 3) := by decide +kernel
theorem d_MO_commit_33 : decode b_MO_commit 33 = .ok (.iload_n 1, 1) := by decide +kernel
theorem d_MO_commit_34 : decode b_MO_commit 34 = .ok (.iconst 0, 1) := by decide +kernel
theorem d_MO_commit_35 : decode b_MO_commit 35 = .ok (.bastore, 1) := by decide +kernel
theorem d_MO_commit_36 : decode b_MO_commit 36 = .ok (.iinc 1 1, 3) := by decide +kernel
theorem d_MO_commit_39 : decode b_MO_commit 39 = .ok (.goto (-16), 3) := by decide +kernel
theorem d_MO_commit_42 : decode b_MO_commit 42 = .ok (.iconst 0, 1) := by decide +kernel
theorem d_MO_commit_43 : decode b_MO_commit 43 = .ok (.istore_n 1, 1) := by decide +kernel
theorem d_MO_commit_44 : decode b_MO_commit 44 = .ok (.iload_n 1, 1) := by decide +kernel
theorem d_MO_commit_45 : decode b_MO_commit 45 = .ok (.sipush 512, 3) := by decide +kernel
theorem d_MO_commit_48 : decode b_MO_commit 48 = .ok (.if_icmp .ge 44, 3) := by decide +kernel
theorem d_MO_commit_51 : decode b_MO_commit 51 = .ok (.aload_n 0, 1) := by decide +kernel
theorem d_MO_commit_52 : decode b_MO_commit 52 = .ok (.getfield 33, 3) := by decide +kernel
theorem d_MO_commit_55 : decode b_MO_commit 55 = .ok (.iload_n 1, 1) := by decide +kernel
theorem d_MO_commit_56 : decode b_MO_commit 56 = .ok (.bipush 8, 2) := by decide +kernel
theorem d_MO_commit_58 : decode b_MO_commit 58 = .ok (.idiv, 1) := by decide +kernel
theorem d_MO_commit_59 : decode b_MO_commit 59 = .ok (.aload_n 0, 1) := by decide +kernel
theorem d_MO_commit_60 : decode b_MO_commit 60 = .ok (.getfield 33, 3) := by decide +kernel
theorem d_MO_commit_63 : decode b_MO_commit 63 = .ok (.iload_n 1, 1) := by decide +kernel
theorem d_MO_commit_64 : decode b_MO_commit 64 = .ok (.bipush 8, 2) := by decide +kernel
theorem d_MO_commit_66 : decode b_MO_commit 66 = .ok (.idiv, 1) := by decide +kernel
theorem d_MO_commit_67 : decode b_MO_commit 67 = .ok (.baload, 1) := by decide +kernel
theorem d_MO_commit_68 : decode b_MO_commit 68 = .ok (.ifCond .ne 12, 3) := by decide +kernel
theorem d_MO_commit_71 : decode b_MO_commit 71 = .ok (.aload_n 0, 1) := by decide +kernel
theorem d_MO_commit_72 : decode b_MO_commit 72 = .ok (.getfield 27, 3) := by decide +kernel
theorem d_MO_commit_75 : decode b_MO_commit 75 = .ok (.iload_n 1, 1) := by decide +kernel
theorem d_MO_commit_76 : decode b_MO_commit 76 = .ok (.iaload, 1) := by decide +kernel
theorem d_MO_commit_77 : decode b_MO_commit 77 = .ok (.ifCond .eq 7, 3) := by decide +kernel
theorem d_MO_commit_80 : decode b_MO_commit 80 = .ok (.iconst 1, 1) := by decide +kernel
theorem d_MO_commit_81 : decode b_MO_commit 81 = .ok (.goto 4, 3) := by decide +kernel
theorem d_MO_commit_84 : decode b_MO_commit 84 = .ok (.iconst 0, 1) := by decide +kernel
theorem d_MO_commit_85 : decode b_MO_commit 85 = .ok (.bastore, 1) := by decide +kernel
theorem d_MO_commit_86 : decode b_MO_commit 86 = .ok (.iinc 1 1, 3) := by decide +kernel
theorem d_MO_commit_89 : decode b_MO_commit 89 = .ok (.goto (-45), 3) := by decide +kernel
theorem d_MO_commit_92 : decode b_MO_commit 92 = .ok (.aload_n 0, 1) := by decide +kernel
theorem d_MO_commit_93 : decode b_MO_commit 93 = .ok (.invokevirtual 196, 3) := by decide +kernel
theorem d_MO_commit_96 : decode b_MO_commit 96 = .ok (.ifCond .ne 6, 3) := by decide +kernel
theorem d_MO_commit_99 : decode b_MO_commit 99 = .ok (.bipush (-2), 2) := by decide +kernel
theorem d_MO_commit_101 : decode b_MO_commit 101 = .ok (.ireturn, 1) := by decide +kernel
theorem d_MO_commit_102 : decode b_MO_commit 102 = .ok (.aload_n 0, 1) := by decide +kernel
theorem d_MO_commit_103 : decode b_MO_commit 103 = .ok (.invokevirtual 199, 3) := by decide +kernel
theorem d_MO_commit_106 : decode b_MO_commit 106 = .ok (.aload_n 0, 1) := by decide +kernel
theorem d_MO_commit_107 : decode b_MO_commit 107 = .ok (.invokevirtual 202, 3) := by decide +kernel
theorem d_MO_commit_110 : decode b_MO_commit 110 = .ok (.aload_n 0, 1) := by decide +kernel
theorem d_MO_commit_111 : decode b_MO_commit 111 = .ok (.getfield 54, 3) := by decide +kernel
theorem d_MO_commit_114 : decode b_MO_commit 114 = .ok (.aload_n 0, 1) := by decide +kernel
theorem d_MO_commit_115 : decode b_MO_commit 115 = .ok (.getfield 67, 3) := by decide +kernel
theorem d_MO_commit_118 : decode b_MO_commit 118 = .ok (.isub, 1) := by decide +kernel
theorem d_MO_commit_119 : decode b_MO_commit 119 = .ok (.aload_n 0, 1) := by decide +kernel
theorem d_MO_commit_120 : decode b_MO_commit 120 = .ok (.getfield 64, 3) := by decide +kernel
theorem d_MO_commit_123 : decode b_MO_commit 123 = .ok (.iadd, 1) := by decide +kernel
theorem d_MO_commit_124 : decode b_MO_commit 124 = .ok (.if_icmp .le 6, 3) := by decide +kernel
theorem d_MO_commit_127 : decode b_MO_commit 127 = .ok (.bipush (-3), 2) := by decide +kernel
theorem d_MO_commit_129 : decode b_MO_commit 129 = .ok (.ireturn, 1) := by decide +kernel
theorem d_MO_commit_130 : decode b_MO_commit 130 = .ok (.aload_n 0, 1) := by decide +kernel
theorem d_MO_commit_131 : decode b_MO_commit 131 = .ok (.aload_n 0, 1) := by decide +kernel
theorem d_MO_commit_132 : decode b_MO_commit 132 = .ok (.getfield 64, 3) := by decide +kernel
theorem d_MO_commit_135 : decode b_MO_commit 135 = .ok (.invokevirtual 206, 3) := by decide +kernel
theorem d_MO_commit_138 : decode b_MO_commit 138 = .ok (.istore_n 1, 1) := by decide +kernel
theorem d_MO_commit_139 : decode b_MO_commit 139 = .ok (.iload_n 1, 1) := by decide +kernel
theorem d_MO_commit_140 : decode b_MO_commit 140 = .ok (.bipush (-4), 2) := by decide +kernel
theorem d_MO_commit_142 : decode b_MO_commit 142 = .ok (.if_icmp .eq 7, 3) := by decide +kernel
theorem d_MO_commit_145 : decode b_MO_commit 145 = .ok (.aload_n 0, 1) := by decide +kernel
theorem d_MO_commit_146 : decode b_MO_commit 146 = .ok (.invokevirtual 113, 3) := by decide +kernel
theorem d_MO_commit_149 : decode b_MO_commit 149 = .ok (.iload_n 1, 1) := by decide +kernel
theorem d_MO_commit_150 : decode b_MO_commit 150 = .ok (.ireturn, 1) := by decide +kernel
theorem d_MO_copy_0 : decode b_MO_copy 0 = .ok (.aload_n 0, 1) := by decide +kernel
theorem d_MO_copy_1 : decode b_MO_copy 1 = .ok (.invokevirtual 109, 3) := by decide +kernel
theorem d_MO_copy_4 : decode b_MO_copy 4 = .ok (.ifCond .ne 5, 3) := by decide +kernel
theorem d_MO_copy_7 : decode b_MO_copy 7 = .ok (.iconst 0, 1) := by decide +kernel
theorem d_MO_copy_8 : decode b_MO_copy 8 = .ok (.ireturn, 1) := by decide +kernel
theorem d_MO_copy_9 : decode b_MO_copy 9 = .ok (.iconst 0, 1) := by decide +kernel
theorem d_MO_copy_10 : decode b_MO_copy 10 = .ok (.istore_n 1, 1) := by decide +kernel
theorem d_MO_copy_11 : decode b_MO_copy 11 = .ok (.iload_n 1, 1) := by decide +kernel
theorem d_MO_copy_12 : decode b_MO_copy 12 = .ok (.bipush 64, 2) := by decide +kernel
theorem d_MO_copy_14 : decode b_MO_copy 14 = .ok (.if_icmp .ge 16, 3) := by decide +kernel
theorem d_MO_copy_17 : decode b_MO_copy 17 = .ok (.aload_n 0, 1) := by decide +kernel
theorem d_MO_copy_18 : decode b_MO_copy 18 = .ok (.getfield 33, 3) := by decide +kernel
theorem d_MO_copy_21 : decode b_MO_copy 21 = .ok (.iload_n 1, 1) := by decide +kernel
theorem d_MO_copy_22 : decode b_MO_copy 22 = .ok (.iconst 1, 1) := by decide +kernel
theorem d_MO_copy_23 : decode b_MO_copy 23 = .ok (.bastore, 1) := by decide +kernel
theorem d_MO_copy_24 : decode b_MO_copy 24 = .ok (.iinc 1 1, 3) := by decide +kernel
theorem d_MO_copy_27 : decode b_MO_copy 27 = .ok (.goto (-16), 3) := by decide +kernel
theorem d_MO_copy_30 : decode b_MO_copy 30 = .ok (.aload_n 0, 1) := by decide +kernel
theorem d_MO_copy_31 : decode b_MO_copy 31 = .ok (.invokevirtual 196, 3) := by decide +kernel
theorem d_MO_copy_34 : decode b_MO_copy 34 = .ok (.ifCond .ne 6, 3) := by decide +kernel
theorem d_MO_copy_37 : decode b_MO_copy 37 = .ok (.bipush (-2), 2) := by decide +kernel
theorem d_MO_copy_39 : decode b_MO_copy 39 = .ok (.ireturn, 1) := by decide +kernel
theorem d_MO_copy_40 : decode b_MO_copy 40 = .ok (.aload_n 0, 1) := by decide +kernel
theorem d_MO_copy_41 : decode b_MO_copy 41 = .ok (.invokevirtual 202, 3) := by decide +kernel
theorem d_MO_copy_44 : decode b_MO_copy 44 = .ok (.aload_n 0, 1) := by decide +kernel
theorem d_MO_copy_45 : decode b_MO_copy 45 = .ok (.getfield 54, 3) := by decide +kernel
theorem d_MO_copy_48 : decode b_MO_copy 48 = .ok (.aload_n 0, 1) := by decide +kernel
theorem d_MO_copy_49 : decode b_MO_copy 49 = .ok (.getfield 67, 3) := by decide +kernel
theorem d_MO_copy_52 : decode b_MO_copy 52 = .ok (.isub, 1) := by decide +kernel
theorem d_MO_copy_53 : decode b_MO_copy 53 = .ok (.aload_n 0, 1) := by decide +kernel
theorem d_MO_copy_54 : decode b_MO_copy 54 = .ok (.getfield 64, 3) := by decide +kernel
theorem d_MO_copy_57 : decode b_MO_copy 57 = .ok (.iadd, 1) := by decide +kernel
theorem d_MO_copy_58 : decode b_MO_copy 58 = .ok (.if_icmp .le 8, 3) := by decide +kernel
theorem d_MO_copy_61 : decode b_MO_copy 61 = .ok (.bipush (-3), 2) := by decide +kernel
theorem d_MO_copy_63 : decode b_MO_copy 63 = .ok (.goto 11, 3) := by decide +kernel
theorem d_MO_copy_66 : decode b_MO_copy 66 = .ok (.aload_n 0, 1) := by decide +kernel
theorem d_MO_copy_67 : decode b_MO_copy 67 = .ok (.aload_n 0, 1) := by decide +kernel
theorem d_MO_copy_68 : decode b_MO_copy 68 = .ok (.getfield 67, 3) := by decide +kernel
theorem d_MO_copy_71 : decode b_MO_copy 71 = .ok (.invokevirtual 206, 3) := by decide +kernel
theorem d_MO_copy_74 : decode b_MO_copy 74 = .ok (.ireturn, 1) := by decide +kernel
theorem d_MO_crash_0 : decode b_MO_crash 0 = .ok (.aload_n 0, 1) := by decide +kernel
theorem d_MO_crash_1 : decode b_MO_crash 1 = .ok (.iload_n 1, 1) := by decide +kernel
theorem d_MO_crash_2 : decode b_MO_crash 2 = .ok (.iconst (-1), 1) := by decide +kernel
theorem d_MO_crash_3 : decode b_MO_crash 3 = .ok (.if_icmp .lt 13, 3) := by decide +kernel
theorem d_MO_crash_6 : decode b_MO_crash 6 = .ok (.iload_n 1, 1) := by decide +kernel
theorem d_MO_crash_7 : decode b_MO_crash 7 = .ok (.ldc 209, 2) := by decide +kernel
theorem d_MO_crash_9 : decode b_MO_crash 9 = .ok (.if_icmp .gt 7, 3) := by decide +kernel
theorem d_MO_crash_12 : decode b_MO_crash 12 = .ok (.iconst 1, 1) := by decide +kernel
theorem d_MO_crash_13 : decode b_MO_crash 13 = .ok (.goto 4, 3) := by decide +kernel
theorem d_MO_crash_16 : decode b_MO_crash 16 = .ok (.iconst 0, 1) := by decide +kernel
theorem d_MO_crash_17 : decode b_MO_crash 17 = .ok (.invokevirtual 101, 3) := by decide +kernel
theorem d_MO_crash_20 : decode b_MO_crash 20 = .ok (.ifCond .eq 21, 3) := by decide +kernel
theorem d_MO_crash_23 : decode b_MO_crash 23 = .ok (.aload_n 0, 1) := by decide +kernel
theorem d_MO_crash_24 : decode b_MO_crash 24 = .ok (.iload_n 1, 1) := by decide +kernel
theorem d_MO_crash_25 : decode b_MO_crash 25 = .ok (.putfield 17, 3) := by decide +kernel
theorem d_MO_crash_28 : decode b_MO_crash 28 = .ok (.aload_n 0, 1) := by decide +kernel
theorem d_MO_crash_29 : decode b_MO_crash 29 = .ok (.iload_n 1, 1) := by decide +kernel
theorem d_MO_crash_30 : decode b_MO_crash 30 = .ok (.ifCond .ne 7, 3) := by decide +kernel
theorem d_MO_crash_33 : decode b_MO_crash 33 = .ok (.iconst 1, 1) := by decide +kernel
theorem d_MO_crash_34 : decode b_MO_crash 34 = .ok (.goto 4, 3) := by decide +kernel
theorem d_MO_crash_37 : decode b_MO_crash 37 = .ok (.iconst 0, 1) := by decide +kernel
theorem d_MO_crash_38 : decode b_MO_crash 38 = .ok (.putfield 60, 3) := by decide +kernel
theorem d_MO_crash_41 : decode b_MO_crash 41 = .ok (.return_, 1) := by decide +kernel
theorem d_MO_isWhole_0 : decode b_MO_isWhole 0 = .ok (.bipush 64, 2) := by decide +kernel
theorem d_MO_isWhole_2 : decode b_MO_isWhole 2 = .ok (.iload_n 1, 1) := by decide +kernel
theorem d_MO_isWhole_3 : decode b_MO_isWhole 3 = .ok (.imul, 1) := by decide +kernel
theorem d_MO_isWhole_4 : decode b_MO_isWhole 4 = .ok (.istore_n 2, 1) := by decide +kernel
theorem d_MO_isWhole_5 : decode b_MO_isWhole 5 = .ok (.aload_n 0, 1) := by decide +kernel
theorem d_MO_isWhole_6 : decode b_MO_isWhole 6 = .ok (.iload_n 2, 1) := by decide +kernel
theorem d_MO_isWhole_7 : decode b_MO_isWhole 7 = .ok (.bipush 40, 2) := by decide +kernel
theorem d_MO_isWhole_9 : decode b_MO_isWhole 9 = .ok (.iadd, 1) := by decide +kernel
theorem d_MO_isWhole_10 : decode b_MO_isWhole 10 = .ok (.invokevirtual 89, 3) := by decide +kernel
theorem d_MO_isWhole_13 : decode b_MO_isWhole 13 = .ok (.istore_n 3, 1) := by decide +kernel
theorem d_MO_isWhole_14 : decode b_MO_isWhole 14 = .ok (.aload_n 0, 1) := by decide +kernel
theorem d_MO_isWhole_15 : decode b_MO_isWhole 15 = .ok (.iload_n 2, 1) := by decide +kernel
theorem d_MO_isWhole_16 : decode b_MO_isWhole 16 = .ok (.iconst 4, 1) := by decide +kernel
theorem d_MO_isWhole_17 : decode b_MO_isWhole 17 = .ok (.iadd, 1) := by decide +kernel
theorem d_MO_isWhole_18 : decode b_MO_isWhole 18 = .ok (.invokevirtual 89, 3) := by decide +kernel
theorem d_MO_isWhole_21 : decode b_MO_isWhole 21 = .ok (.istore 4, 2) := by decide +kernel
theorem d_MO_isWhole_23 : decode b_MO_isWhole 23 = .ok (.aload_n 0, 1) := by decide +kernel
theorem d_MO_isWhole_24 : decode b_MO_isWhole 24 = .ok (.iload_n 2, 1) := by decide +kernel
theorem d_MO_isWhole_25 : decode b_MO_isWhole 25 = .ok (.bipush 16, 2) := by decide +kernel
theorem d_MO_isWhole_27 : decode b_MO_isWhole 27 = .ok (.iadd, 1) := by decide +kernel
theorem d_MO_isWhole_28 : decode b_MO_isWhole 28 = .ok (.invokevirtual 89, 3) := by decide +kernel
theorem d_MO_isWhole_31 : decode b_MO_isWhole 31 = .ok (.istore 5, 2) := by decide +kernel
theorem d_MO_isWhole_33 : decode b_MO_isWhole 33 = .ok (.aload_n 0, 1) := by decide +kernel
theorem d_MO_isWhole_34 : decode b_MO_isWhole 34 = .ok (.iload_n 2, 1) := by decide +kernel
theorem d_MO_isWhole_35 : decode b_MO_isWhole 35 = .ok (.invokevirtual 86, 3) := by decide +kernel
theorem d_MO_isWhole_38 : decode b_MO_isWhole 38 = .ok (.ifCond .eq 72, 3) := by decide +kernel
theorem d_MO_isWhole_41 : decode b_MO_isWhole 41 = .ok (.aload_n 0, 1) := by decide +kernel
theorem d_MO_isWhole_42 : decode b_MO_isWhole 42 = .ok (.getfield 7, 3) := by decide +kernel
theorem d_MO_isWhole_45 : decode b_MO_isWhole 45 = .ok (.iload_n 2, 1) := by decide +kernel
theorem d_MO_isWhole_46 : decode b_MO_isWhole 46 = .ok (.iaload, 1) := by decide +kernel
theorem d_MO_isWhole_47 : decode b_MO_isWhole 47 = .ok (.iconst 4, 1) := by decide +kernel
theorem d_MO_isWhole_48 : decode b_MO_isWhole 48 = .ok (.if_icmp .ne 62, 3) := by decide +kernel
theorem d_MO_isWhole_51 : decode b_MO_isWhole 51 = .ok (.iload_n 3, 1) := by decide +kernel
theorem d_MO_isWhole_52 : decode b_MO_isWhole 52 = .ok (.ifCond .lt 58, 3) := by decide +kernel
theorem d_MO_isWhole_55 : decode b_MO_isWhole 55 = .ok (.iload_n 3, 1) := by decide +kernel
theorem d_MO_isWhole_56 : decode b_MO_isWhole 56 = .ok (.ldc 210, 2) := by decide +kernel
theorem d_MO_isWhole_58 : decode b_MO_isWhole 58 = .ok (.if_icmp .gt 52, 3) := by decide +kernel
theorem d_MO_isWhole_61 : decode b_MO_isWhole 61 = .ok (.iload_n 3, 1) := by decide +kernel
theorem d_MO_isWhole_62 : decode b_MO_isWhole 62 = .ok (.aload_n 0, 1) := by decide +kernel
theorem d_MO_isWhole_63 : decode b_MO_isWhole 63 = .ok (.getfield 54, 3) := by decide +kernel
theorem d_MO_isWhole_66 : decode b_MO_isWhole 66 = .ok (.irem, 1) := by decide +kernel
theorem d_MO_isWhole_67 : decode b_MO_isWhole 67 = .ok (.iload_n 1, 1) := by decide +kernel
theorem d_MO_isWhole_68 : decode b_MO_isWhole 68 = .ok (.if_icmp .ne 42, 3) := by decide +kernel
theorem d_MO_isWhole_71 : decode b_MO_isWhole 71 = .ok (.iload 4, 2) := by decide +kernel
theorem d_MO_isWhole_73 : decode b_MO_isWhole 73 = .ok (.iconst 1, 1) := by decide +kernel
theorem d_MO_isWhole_74 : decode b_MO_isWhole 74 = .ok (.if_icmp .lt 36, 3) := by decide +kernel
theorem d_MO_isWhole_77 : decode b_MO_isWhole 77 = .ok (.iload 4, 2) := by decide +kernel
theorem d_MO_isWhole_79 : decode b_MO_isWhole 79 = .ok (.ldc 210, 2) := by decide +kernel
theorem d_MO_isWhole_81 : decode b_MO_isWhole 81 = .ok (.if_icmp .gt 29, 3) := by decide +kernel
theorem d_MO_isWhole_84 : decode b_MO_isWhole 84 = .ok (.iload 5, 2) := by decide +kernel
theorem d_MO_isWhole_86 : decode b_MO_isWhole 86 = .ok (.ifCond .lt 24, 3) := by decide +kernel
theorem d_MO_isWhole_89 : decode b_MO_isWhole 89 = .ok (.iload 5, 2) := by decide +kernel
theorem d_MO_isWhole_91 : decode b_MO_isWhole 91 = .ok (.iload_n 3, 1) := by decide +kernel
theorem d_MO_isWhole_92 : decode b_MO_isWhole 92 = .ok (.if_icmp .gt 18, 3) := by decide +kernel
theorem d_MO_isWhole_95 : decode b_MO_isWhole 95 = .ok (.iload_n 3, 1) := by decide +kernel
theorem d_MO_isWhole_96 : decode b_MO_isWhole 96 = .ok (.iload 5, 2) := by decide +kernel
theorem d_MO_isWhole_98 : decode b_MO_isWhole 98 = .ok (.isub, 1) := by decide +kernel
theorem d_MO_isWhole_99 : decode b_MO_isWhole 99 = .ok (.aload_n 0, 1) := by decide +kernel
theorem d_MO_isWhole_100 : decode b_MO_isWhole 100 = .ok (.getfield 54, 3) := by decide +kernel
theorem d_MO_isWhole_103 : decode b_MO_isWhole 103 = .ok (.if_icmp .ge 7, 3) := by decide +kernel
theorem d_MO_isWhole_106 : decode b_MO_isWhole 106 = .ok (.iconst 1, 1) := by decide +kernel
theorem d_MO_isWhole_107 : decode b_MO_isWhole 107 = .ok (.goto 4, 3) := by decide +kernel
theorem d_MO_isWhole_110 : decode b_MO_isWhole 110 = .ok (.iconst 0, 1) := by decide +kernel
theorem d_MO_isWhole_111 : decode b_MO_isWhole 111 = .ok (.ireturn, 1) := by decide +kernel
theorem d_MO_keep_0 : decode b_MO_keep 0 = .ok (.iconst 0, 1) := by decide +kernel
theorem d_MO_keep_1 : decode b_MO_keep 1 = .ok (.istore_n 3, 1) := by decide +kernel
theorem d_MO_keep_2 : decode b_MO_keep 2 = .ok (.iload_n 3, 1) := by decide +kernel
theorem d_MO_keep_3 : decode b_MO_keep 3 = .ok (.aload_n 0, 1) := by decide +kernel
theorem d_MO_keep_4 : decode b_MO_keep 4 = .ok (.getfield 116, 3) := by decide +kernel
theorem d_MO_keep_7 : decode b_MO_keep 7 = .ok (.if_icmp .ge 19, 3) := by decide +kernel
theorem d_MO_keep_10 : decode b_MO_keep 10 = .ok (.aload_n 0, 1) := by decide +kernel
theorem d_MO_keep_11 : decode b_MO_keep 11 = .ok (.getfield 21, 3) := by decide +kernel
theorem d_MO_keep_14 : decode b_MO_keep 14 = .ok (.iload_n 3, 1) := by decide +kernel
theorem d_MO_keep_15 : decode b_MO_keep 15 = .ok (.iaload, 1) := by decide +kernel
theorem d_MO_keep_16 : decode b_MO_keep 16 = .ok (.iload_n 1, 1) := by decide +kernel
theorem d_MO_keep_17 : decode b_MO_keep 17 = .ok (.if_icmp .ge 9, 3) := by decide +kernel
theorem d_MO_keep_20 : decode b_MO_keep 20 = .ok (.iinc 3 1, 3) := by decide +kernel
theorem d_MO_keep_23 : decode b_MO_keep 23 = .ok (.goto (-21), 3) := by decide +kernel
theorem d_MO_keep_26 : decode b_MO_keep 26 = .ok (.iload_n 3, 1) := by decide +kernel
theorem d_MO_keep_27 : decode b_MO_keep 27 = .ok (.aload_n 0, 1) := by decide +kernel
theorem d_MO_keep_28 : decode b_MO_keep 28 = .ok (.getfield 116, 3) := by decide +kernel
theorem d_MO_keep_31 : decode b_MO_keep 31 = .ok (.if_icmp .ge 40, 3) := by decide +kernel
theorem d_MO_keep_34 : decode b_MO_keep 34 = .ok (.aload_n 0, 1) := by decide +kernel
theorem d_MO_keep_35 : decode b_MO_keep 35 = .ok (.getfield 21, 3) := by decide +kernel
theorem d_MO_keep_38 : decode b_MO_keep 38 = .ok (.iload_n 3, 1) := by decide +kernel
theorem d_MO_keep_39 : decode b_MO_keep 39 = .ok (.iaload, 1) := by decide +kernel
theorem d_MO_keep_40 : decode b_MO_keep 40 = .ok (.iload_n 1, 1) := by decide +kernel
theorem d_MO_keep_41 : decode b_MO_keep 41 = .ok (.if_icmp .ne 30, 3) := by decide +kernel
theorem d_MO_keep_44 : decode b_MO_keep 44 = .ok (.aload_n 0, 1) := by decide +kernel
theorem d_MO_keep_45 : decode b_MO_keep 45 = .ok (.getfield 24, 3) := by decide +kernel
theorem d_MO_keep_48 : decode b_MO_keep 48 = .ok (.iload_n 3, 1) := by decide +kernel
theorem d_MO_keep_49 : decode b_MO_keep 49 = .ok (.aload_n 0, 1) := by decide +kernel
theorem d_MO_keep_50 : decode b_MO_keep 50 = .ok (.getfield 24, 3) := by decide +kernel
theorem d_MO_keep_53 : decode b_MO_keep 53 = .ok (.iload_n 3, 1) := by decide +kernel
theorem d_MO_keep_54 : decode b_MO_keep 54 = .ok (.iaload, 1) := by decide +kernel
theorem d_MO_keep_55 : decode b_MO_keep 55 = .ok (.iload_n 2, 1) := by decide +kernel
theorem d_MO_keep_56 : decode b_MO_keep 56 = .ok (.if_icmp .le 12, 3) := by decide +kernel
theorem d_MO_keep_59 : decode b_MO_keep 59 = .ok (.aload_n 0, 1) := by decide +kernel
theorem d_MO_keep_60 : decode b_MO_keep 60 = .ok (.getfield 24, 3) := by decide +kernel
theorem d_MO_keep_63 : decode b_MO_keep 63 = .ok (.iload_n 3, 1) := by decide +kernel
theorem d_MO_keep_64 : decode b_MO_keep 64 = .ok (.iaload, 1) := by decide +kernel
theorem d_MO_keep_65 : decode b_MO_keep 65 = .ok (.goto 4, 3) := by decide +kernel
theorem d_MO_keep_68 : decode b_MO_keep 68 = .ok (.iload_n 2, 1) := by decide +kernel
theorem d_MO_keep_69 : decode b_MO_keep 69 = .ok (.iastore, 1) := by decide +kernel
theorem d_MO_keep_70 : decode b_MO_keep 70 = .ok (.return_, 1) := by decide +kernel
theorem d_MO_keep_71 : decode b_MO_keep 71 = .ok (.aload_n 0, 1) := by decide +kernel
theorem d_MO_keep_72 : decode b_MO_keep 72 = .ok (.getfield 116, 3) := by decide +kernel
theorem d_MO_keep_75 : decode b_MO_keep 75 = .ok (.istore 4, 2) := by decide +kernel
theorem d_MO_keep_77 : decode b_MO_keep 77 = .ok (.iload 4, 2) := by decide +kernel
theorem d_MO_keep_79 : decode b_MO_keep 79 = .ok (.iload_n 3, 1) := by decide +kernel
theorem d_MO_keep_80 : decode b_MO_keep 80 = .ok (.if_icmp .le 41, 3) := by decide +kernel
theorem d_MO_keep_83 : decode b_MO_keep 83 = .ok (.aload_n 0, 1) := by decide +kernel
theorem d_MO_keep_84 : decode b_MO_keep 84 = .ok (.getfield 21, 3) := by decide +kernel
theorem d_MO_keep_87 : decode b_MO_keep 87 = .ok (.iload 4, 2) := by decide +kernel
theorem d_MO_keep_89 : decode b_MO_keep 89 = .ok (.aload_n 0, 1) := by decide +kernel
theorem d_MO_keep_90 : decode b_MO_keep 90 = .ok (.getfield 21, 3) := by decide +kernel
theorem d_MO_keep_93 : decode b_MO_keep 93 = .ok (.iload 4, 2) := by decide +kernel
theorem d_MO_keep_95 : decode b_MO_keep 95 = .ok (.iconst 1, 1) := by decide +kernel
theorem d_MO_keep_96 : decode b_MO_keep 96 = .ok (.isub, 1) := by decide +kernel
theorem d_MO_keep_97 : decode b_MO_keep 97 = .ok (.iaload, 1) := by decide +kernel
theorem d_MO_keep_98 : decode b_MO_keep 98 = .ok (.iastore, 1) := by decide +kernel
theorem d_MO_keep_99 : decode b_MO_keep 99 = .ok (.aload_n 0, 1) := by decide +kernel
theorem d_MO_keep_100 : decode b_MO_keep 100 = .ok (.getfield 24, 3) := by decide +kernel
theorem d_MO_keep_103 : decode b_MO_keep 103 = .ok (.iload 4, 2) := by decide +kernel
theorem d_MO_keep_105 : decode b_MO_keep 105 = .ok (.aload_n 0, 1) := by decide +kernel
theorem d_MO_keep_106 : decode b_MO_keep 106 = .ok (.getfield 24, 3) := by decide +kernel
theorem d_MO_keep_109 : decode b_MO_keep 109 = .ok (.iload 4, 2) := by decide +kernel
theorem d_MO_keep_111 : decode b_MO_keep 111 = .ok (.iconst 1, 1) := by decide +kernel
theorem d_MO_keep_112 : decode b_MO_keep 112 = .ok (.isub, 1) := by decide +kernel
theorem d_MO_keep_113 : decode b_MO_keep 113 = .ok (.iaload, 1) := by decide +kernel
theorem d_MO_keep_114 : decode b_MO_keep 114 = .ok (.iastore, 1) := by decide +kernel
theorem d_MO_keep_115 : decode b_MO_keep 115 = .ok (.iinc 4 (-1), 3) := by decide +kernel
theorem d_MO_keep_118 : decode b_MO_keep 118 = .ok (.goto (-41), 3) := by decide +kernel
theorem d_MO_keep_121 : decode b_MO_keep 121 = .ok (.aload_n 0, 1) := by decide +kernel
theorem d_MO_keep_122 : decode b_MO_keep 122 = .ok (.getfield 21, 3) := by decide +kernel
theorem d_MO_keep_125 : decode b_MO_keep 125 = .ok (.iload_n 3, 1) := by decide +kernel
theorem d_MO_keep_126 : decode b_MO_keep 126 = .ok (.iload_n 1, 1) := by decide +kernel
theorem d_MO_keep_127 : decode b_MO_keep 127 = .ok (.iastore, 1) := by decide +kernel
theorem d_MO_keep_128 : decode b_MO_keep 128 = .ok (.aload_n 0, 1) := by decide +kernel
theorem d_MO_keep_129 : decode b_MO_keep 129 = .ok (.getfield 24, 3) := by decide +kernel
theorem d_MO_keep_132 : decode b_MO_keep 132 = .ok (.iload_n 3, 1) := by decide +kernel
theorem d_MO_keep_133 : decode b_MO_keep 133 = .ok (.iload_n 2, 1) := by decide +kernel
theorem d_MO_keep_134 : decode b_MO_keep 134 = .ok (.iastore, 1) := by decide +kernel
theorem d_MO_keep_135 : decode b_MO_keep 135 = .ok (.aload_n 0, 1) := by decide +kernel
theorem d_MO_keep_136 : decode b_MO_keep 136 = .ok (.dup, 1) := by decide +kernel
theorem d_MO_keep_137 : decode b_MO_keep 137 = .ok (.getfield 116, 3) := by decide +kernel
theorem d_MO_keep_140 : decode b_MO_keep 140 = .ok (.iconst 1, 1) := by decide +kernel
theorem d_MO_keep_141 : decode b_MO_keep 141 = .ok (.iadd, 1) := by decide +kernel
theorem d_MO_keep_142 : decode b_MO_keep 142 = .ok (.putfield 116, 3) := by decide +kernel
theorem d_MO_keep_145 : decode b_MO_keep 145 = .ok (.return_, 1) := by decide +kernel
theorem d_MO_reopen_0 : decode b_MO_reopen 0 = .ok (.aload_n 0, 1) := by decide +kernel
theorem d_MO_reopen_1 : decode b_MO_reopen 1 = .ok (.iconst 0, 1) := by decide +kernel
theorem d_MO_reopen_2 : decode b_MO_reopen 2 = .ok (.putfield 57, 3) := by decide +kernel
theorem d_MO_reopen_5 : decode b_MO_reopen 5 = .ok (.aload_n 0, 1) := by decide +kernel
theorem d_MO_reopen_6 : decode b_MO_reopen 6 = .ok (.iconst 0, 1) := by decide +kernel
theorem d_MO_reopen_7 : decode b_MO_reopen 7 = .ok (.putfield 60, 3) := by decide +kernel
theorem d_MO_reopen_10 : decode b_MO_reopen 10 = .ok (.aload_n 0, 1) := by decide +kernel
theorem d_MO_reopen_11 : decode b_MO_reopen 11 = .ok (.iconst (-1), 1) := by decide +kernel
theorem d_MO_reopen_12 : decode b_MO_reopen 12 = .ok (.putfield 17, 3) := by decide +kernel
theorem d_MO_reopen_15 : decode b_MO_reopen 15 = .ok (.aload_n 0, 1) := by decide +kernel
theorem d_MO_reopen_16 : decode b_MO_reopen 16 = .ok (.invokevirtual 113, 3) := by decide +kernel
theorem d_MO_reopen_19 : decode b_MO_reopen 19 = .ok (.aload_n 0, 1) := by decide +kernel
theorem d_MO_reopen_20 : decode b_MO_reopen 20 = .ok (.iconst 0, 1) := by decide +kernel
theorem d_MO_reopen_21 : decode b_MO_reopen 21 = .ok (.putfield 137, 3) := by decide +kernel
theorem d_MO_reopen_24 : decode b_MO_reopen 24 = .ok (.aload_n 0, 1) := by decide +kernel
theorem d_MO_reopen_25 : decode b_MO_reopen 25 = .ok (.iconst 0, 1) := by decide +kernel
theorem d_MO_reopen_26 : decode b_MO_reopen 26 = .ok (.putfield 64, 3) := by decide +kernel
theorem d_MO_reopen_29 : decode b_MO_reopen 29 = .ok (.aload_n 0, 1) := by decide +kernel
theorem d_MO_reopen_30 : decode b_MO_reopen 30 = .ok (.iconst 0, 1) := by decide +kernel
theorem d_MO_reopen_31 : decode b_MO_reopen 31 = .ok (.putfield 67, 3) := by decide +kernel
theorem d_MO_reopen_34 : decode b_MO_reopen 34 = .ok (.aload_n 0, 1) := by decide +kernel
theorem d_MO_reopen_35 : decode b_MO_reopen 35 = .ok (.iconst 0, 1) := by decide +kernel
theorem d_MO_reopen_36 : decode b_MO_reopen 36 = .ok (.putfield 116, 3) := by decide +kernel
theorem d_MO_reopen_39 : decode b_MO_reopen 39 = .ok (.iconst 0, 1) := by decide +kernel
theorem d_MO_reopen_40 : decode b_MO_reopen 40 = .ok (.istore_n 1, 1) := by decide +kernel
theorem d_MO_reopen_41 : decode b_MO_reopen 41 = .ok (.iload_n 1, 1) := by decide +kernel
theorem d_MO_reopen_42 : decode b_MO_reopen 42 = .ok (.aload_n 0, 1) := by decide +kernel
theorem d_MO_reopen_43 : decode b_MO_reopen 43 = .ok (.getfield 54, 3) := by decide +kernel
theorem d_MO_reopen_46 : decode b_MO_reopen 46 = .ok (.if_icmp .ge 102, 3) := by decide +kernel
theorem d_MO_reopen_49 : decode b_MO_reopen 49 = .ok (.bipush 64, 2) := by decide +kernel
theorem d_MO_reopen_51 : decode b_MO_reopen 51 = .ok (.iload_n 1, 1) := by decide +kernel
theorem d_MO_reopen_52 : decode b_MO_reopen 52 = .ok (.imul, 1) := by decide +kernel
theorem d_MO_reopen_53 : decode b_MO_reopen 53 = .ok (.istore_n 2, 1) := by decide +kernel
theorem d_MO_reopen_54 : decode b_MO_reopen 54 = .ok (.aload_n 0, 1) := by decide +kernel
theorem d_MO_reopen_55 : decode b_MO_reopen 55 = .ok (.iload_n 1, 1) := by decide +kernel
theorem d_MO_reopen_56 : decode b_MO_reopen 56 = .ok (.invokevirtual 211, 3) := by decide +kernel
theorem d_MO_reopen_59 : decode b_MO_reopen 59 = .ok (.ifCond .eq 83, 3) := by decide +kernel
theorem d_MO_reopen_62 : decode b_MO_reopen 62 = .ok (.aload_n 0, 1) := by decide +kernel
theorem d_MO_reopen_63 : decode b_MO_reopen 63 = .ok (.iload_n 2, 1) := by decide +kernel
theorem d_MO_reopen_64 : decode b_MO_reopen 64 = .ok (.iconst 4, 1) := by decide +kernel
theorem d_MO_reopen_65 : decode b_MO_reopen 65 = .ok (.iadd, 1) := by decide +kernel
theorem d_MO_reopen_66 : decode b_MO_reopen 66 = .ok (.invokevirtual 89, 3) := by decide +kernel
theorem d_MO_reopen_69 : decode b_MO_reopen 69 = .ok (.aload_n 0, 1) := by decide +kernel
theorem d_MO_reopen_70 : decode b_MO_reopen 70 = .ok (.getfield 137, 3) := by decide +kernel
theorem d_MO_reopen_73 : decode b_MO_reopen 73 = .ok (.if_icmp .gt 32, 3) := by decide +kernel
theorem d_MO_reopen_76 : decode b_MO_reopen 76 = .ok (.aload_n 0, 1) := by decide +kernel
theorem d_MO_reopen_77 : decode b_MO_reopen 77 = .ok (.iload_n 2, 1) := by decide +kernel
theorem d_MO_reopen_78 : decode b_MO_reopen 78 = .ok (.iconst 4, 1) := by decide +kernel
theorem d_MO_reopen_79 : decode b_MO_reopen 79 = .ok (.iadd, 1) := by decide +kernel
theorem d_MO_reopen_80 : decode b_MO_reopen 80 = .ok (.invokevirtual 89, 3) := by decide +kernel
theorem d_MO_reopen_83 : decode b_MO_reopen 83 = .ok (.aload_n 0, 1) := by decide +kernel
theorem d_MO_reopen_84 : decode b_MO_reopen 84 = .ok (.getfield 137, 3) := by decide +kernel
theorem d_MO_reopen_87 : decode b_MO_reopen 87 = .ok (.if_icmp .ne 55, 3) := by decide +kernel
theorem d_MO_reopen_90 : decode b_MO_reopen 90 = .ok (.aload_n 0, 1) := by decide +kernel
theorem d_MO_reopen_91 : decode b_MO_reopen 91 = .ok (.iload_n 2, 1) := by decide +kernel
theorem d_MO_reopen_92 : decode b_MO_reopen 92 = .ok (.bipush 40, 2) := by decide +kernel
theorem d_MO_reopen_94 : decode b_MO_reopen 94 = .ok (.iadd, 1) := by decide +kernel
theorem d_MO_reopen_95 : decode b_MO_reopen 95 = .ok (.invokevirtual 89, 3) := by decide +kernel
theorem d_MO_reopen_98 : decode b_MO_reopen 98 = .ok (.aload_n 0, 1) := by decide +kernel
theorem d_MO_reopen_99 : decode b_MO_reopen 99 = .ok (.getfield 67, 3) := by decide +kernel
theorem d_MO_reopen_102 : decode b_MO_reopen 102 = .ok (.if_icmp .lt 40, 3) := by decide +kernel
theorem d_MO_reopen_105 : decode b_MO_reopen 105 = .ok (.aload_n 0, 1) := by decide +kernel
theorem d_MO_reopen_106 : decode b_MO_reopen 106 = .ok (.aload_n 0, 1) := by decide +kernel
theorem d_MO_reopen_107 : decode b_MO_reopen 107 = .ok (.iload_n 2, 1) := by decide +kernel
theorem d_MO_reopen_108 : decode b_MO_reopen 108 = .ok (.iconst 4, 1) := by decide +kernel
theorem d_MO_reopen_109 : decode b_MO_reopen 109 = .ok (.iadd, 1) := by decide +kernel
theorem d_MO_reopen_110 : decode b_MO_reopen 110 = .ok (.invokevirtual 89, 3) := by decide +kernel
theorem d_MO_reopen_113 : decode b_MO_reopen 113 = .ok (.putfield 137, 3) := by decide +kernel
theorem d_MO_reopen_116 : decode b_MO_reopen 116 = .ok (.aload_n 0, 1) := by decide +kernel
theorem d_MO_reopen_117 : decode b_MO_reopen 117 = .ok (.aload_n 0, 1) := by decide +kernel
theorem d_MO_reopen_118 : decode b_MO_reopen 118 = .ok (.iload_n 2, 1) := by decide +kernel
theorem d_MO_reopen_119 : decode b_MO_reopen 119 = .ok (.bipush 40, 2) := by decide +kernel
theorem d_MO_reopen_121 : decode b_MO_reopen 121 = .ok (.iadd, 1) := by decide +kernel
theorem d_MO_reopen_122 : decode b_MO_reopen 122 = .ok (.invokevirtual 89, 3) := by decide +kernel
theorem d_MO_reopen_125 : decode b_MO_reopen 125 = .ok (.iconst 1, 1) := by decide +kernel
theorem d_MO_reopen_126 : decode b_MO_reopen 126 = .ok (.iadd, 1) := by decide +kernel
theorem d_MO_reopen_127 : decode b_MO_reopen 127 = .ok (.putfield 67, 3) := by decide +kernel
theorem d_MO_reopen_130 : decode b_MO_reopen 130 = .ok (.aload_n 0, 1) := by decide +kernel
theorem d_MO_reopen_131 : decode b_MO_reopen 131 = .ok (.aload_n 0, 1) := by decide +kernel
theorem d_MO_reopen_132 : decode b_MO_reopen 132 = .ok (.iload_n 2, 1) := by decide +kernel
theorem d_MO_reopen_133 : decode b_MO_reopen 133 = .ok (.bipush 16, 2) := by decide +kernel
theorem d_MO_reopen_135 : decode b_MO_reopen 135 = .ok (.iadd, 1) := by decide +kernel
theorem d_MO_reopen_136 : decode b_MO_reopen 136 = .ok (.invokevirtual 89, 3) := by decide +kernel
theorem d_MO_reopen_139 : decode b_MO_reopen 139 = .ok (.putfield 64, 3) := by decide +kernel
theorem d_MO_reopen_142 : decode b_MO_reopen 142 = .ok (.iinc 1 1, 3) := by decide +kernel
theorem d_MO_reopen_145 : decode b_MO_reopen 145 = .ok (.goto (-104), 3) := by decide +kernel
theorem d_MO_reopen_148 : decode b_MO_reopen 148 = .ok (.iconst 0, 1) := by decide +kernel
theorem d_MO_reopen_149 : decode b_MO_reopen 149 = .ok (.istore_n 1, 1) := by decide +kernel
theorem d_MO_reopen_150 : decode b_MO_reopen 150 = .ok (.iload_n 1, 1) := by decide +kernel
theorem d_MO_reopen_151 : decode b_MO_reopen 151 = .ok (.aload_n 0, 1) := by decide +kernel
theorem d_MO_reopen_152 : decode b_MO_reopen 152 = .ok (.getfield 54, 3) := by decide +kernel
theorem d_MO_reopen_155 : decode b_MO_reopen 155 = .ok (.if_icmp .ge 56, 3) := by decide +kernel
theorem d_MO_reopen_158 : decode b_MO_reopen 158 = .ok (.bipush 64, 2) := by decide +kernel
theorem d_MO_reopen_160 : decode b_MO_reopen 160 = .ok (.iload_n 1, 1) := by decide +kernel
theorem d_MO_reopen_161 : decode b_MO_reopen 161 = .ok (.imul, 1) := by decide +kernel
theorem d_MO_reopen_162 : decode b_MO_reopen 162 = .ok (.istore_n 2, 1) := by decide +kernel
theorem d_MO_reopen_163 : decode b_MO_reopen 163 = .ok (.aload_n 0, 1) := by decide +kernel
theorem d_MO_reopen_164 : decode b_MO_reopen 164 = .ok (.iload_n 1, 1) := by decide +kernel
theorem d_MO_reopen_165 : decode b_MO_reopen 165 = .ok (.invokevirtual 211, 3) := by decide +kernel
theorem d_MO_reopen_168 : decode b_MO_reopen 168 = .ok (.ifCond .eq 37, 3) := by decide +kernel
theorem d_MO_reopen_171 : decode b_MO_reopen 171 = .ok (.aload_n 0, 1) := by decide +kernel
theorem d_MO_reopen_172 : decode b_MO_reopen 172 = .ok (.aload_n 0, 1) := by decide +kernel
theorem d_MO_reopen_173 : decode b_MO_reopen 173 = .ok (.iload_n 2, 1) := by decide +kernel
theorem d_MO_reopen_174 : decode b_MO_reopen 174 = .ok (.bipush 40, 2) := by decide +kernel
theorem d_MO_reopen_176 : decode b_MO_reopen 176 = .ok (.iadd, 1) := by decide +kernel
theorem d_MO_reopen_177 : decode b_MO_reopen 177 = .ok (.invokevirtual 89, 3) := by decide +kernel
theorem d_MO_reopen_180 : decode b_MO_reopen 180 = .ok (.invokevirtual 78, 3) := by decide +kernel
theorem d_MO_reopen_183 : decode b_MO_reopen 183 = .ok (.ifCond .eq 22, 3) := by decide +kernel
theorem d_MO_reopen_186 : decode b_MO_reopen 186 = .ok (.aload_n 0, 1) := by decide +kernel
theorem d_MO_reopen_187 : decode b_MO_reopen 187 = .ok (.aload_n 0, 1) := by decide +kernel
theorem d_MO_reopen_188 : decode b_MO_reopen 188 = .ok (.iload_n 2, 1) := by decide +kernel
theorem d_MO_reopen_189 : decode b_MO_reopen 189 = .ok (.iconst 4, 1) := by decide +kernel
theorem d_MO_reopen_190 : decode b_MO_reopen 190 = .ok (.iadd, 1) := by decide +kernel
theorem d_MO_reopen_191 : decode b_MO_reopen 191 = .ok (.invokevirtual 89, 3) := by decide +kernel
theorem d_MO_reopen_194 : decode b_MO_reopen 194 = .ok (.aload_n 0, 1) := by decide +kernel
theorem d_MO_reopen_195 : decode b_MO_reopen 195 = .ok (.iload_n 2, 1) := by decide +kernel
theorem d_MO_reopen_196 : decode b_MO_reopen 196 = .ok (.bipush 40, 2) := by decide +kernel
theorem d_MO_reopen_198 : decode b_MO_reopen 198 = .ok (.iadd, 1) := by decide +kernel
theorem d_MO_reopen_199 : decode b_MO_reopen 199 = .ok (.invokevirtual 89, 3) := by decide +kernel
theorem d_MO_reopen_202 : decode b_MO_reopen 202 = .ok (.invokevirtual 214, 3) := by decide +kernel
theorem d_MO_reopen_205 : decode b_MO_reopen 205 = .ok (.iinc 1 1, 3) := by decide +kernel
theorem d_MO_reopen_208 : decode b_MO_reopen 208 = .ok (.goto (-58), 3) := by decide +kernel
theorem d_MO_reopen_211 : decode b_MO_reopen 211 = .ok (.aload_n 0, 1) := by decide +kernel
theorem d_MO_reopen_212 : decode b_MO_reopen 212 = .ok (.getfield 137, 3) := by decide +kernel
theorem d_MO_reopen_215 : decode b_MO_reopen 215 = .ok (.ireturn, 1) := by decide +kernel
theorem d_MO_isDown_0 : decode b_MO_isDown 0 = .ok (.aload_n 0, 1) := by decide +kernel
theorem d_MO_isDown_1 : decode b_MO_isDown 1 = .ok (.iconst 0, 1) := by decide +kernel
theorem d_MO_isDown_2 : decode b_MO_isDown 2 = .ok (.putfield 57, 3) := by decide +kernel
theorem d_MO_isDown_5 : decode b_MO_isDown 5 = .ok (.aload_n 0, 1) := by decide +kernel
theorem d_MO_isDown_6 : decode b_MO_isDown 6 = .ok (.getfield 60, 3) := by decide +kernel
theorem d_MO_isDown_9 : decode b_MO_isDown 9 = .ok (.ireturn, 1) := by decide +kernel
theorem d_MO_byteAt_0 : decode b_MO_byteAt 0 = .ok (.aload_n 0, 1) := by decide +kernel
theorem d_MO_byteAt_1 : decode b_MO_byteAt 1 = .ok (.aload_n 0, 1) := by decide +kernel
theorem d_MO_byteAt_2 : decode b_MO_byteAt 2 = .ok (.iload_n 1, 1) := by decide +kernel
theorem d_MO_byteAt_3 : decode b_MO_byteAt 3 = .ok (.invokevirtual 78, 3) := by decide +kernel
theorem d_MO_byteAt_6 : decode b_MO_byteAt 6 = .ok (.ifCond .eq 17, 3) := by decide +kernel
theorem d_MO_byteAt_9 : decode b_MO_byteAt 9 = .ok (.iload_n 2, 1) := by decide +kernel
theorem d_MO_byteAt_10 : decode b_MO_byteAt 10 = .ok (.ifCond .lt 13, 3) := by decide +kernel
theorem d_MO_byteAt_13 : decode b_MO_byteAt 13 = .ok (.iload_n 2, 1) := by decide +kernel
theorem d_MO_byteAt_14 : decode b_MO_byteAt 14 = .ok (.bipush 64, 2) := by decide +kernel
theorem d_MO_byteAt_16 : decode b_MO_byteAt 16 = .ok (.if_icmp .ge 7, 3) := by decide +kernel
theorem d_MO_byteAt_19 : decode b_MO_byteAt 19 = .ok (.iconst 1, 1) := by decide +kernel
theorem d_MO_byteAt_20 : decode b_MO_byteAt 20 = .ok (.goto 4, 3) := by decide +kernel
theorem d_MO_byteAt_23 : decode b_MO_byteAt 23 = .ok (.iconst 0, 1) := by decide +kernel
theorem d_MO_byteAt_24 : decode b_MO_byteAt 24 = .ok (.invokevirtual 101, 3) := by decide +kernel
theorem d_MO_byteAt_27 : decode b_MO_byteAt 27 = .ok (.ifCond .eq 18, 3) := by decide +kernel
theorem d_MO_byteAt_30 : decode b_MO_byteAt 30 = .ok (.aload_n 0, 1) := by decide +kernel
theorem d_MO_byteAt_31 : decode b_MO_byteAt 31 = .ok (.getfield 7, 3) := by decide +kernel
theorem d_MO_byteAt_34 : decode b_MO_byteAt 34 = .ok (.aload_n 0, 1) := by decide +kernel
theorem d_MO_byteAt_35 : decode b_MO_byteAt 35 = .ok (.iload_n 1, 1) := by decide +kernel
theorem d_MO_byteAt_36 : decode b_MO_byteAt 36 = .ok (.invokevirtual 82, 3) := by decide +kernel
theorem d_MO_byteAt_39 : decode b_MO_byteAt 39 = .ok (.iload_n 2, 1) := by decide +kernel
theorem d_MO_byteAt_40 : decode b_MO_byteAt 40 = .ok (.iadd, 1) := by decide +kernel
theorem d_MO_byteAt_41 : decode b_MO_byteAt 41 = .ok (.iaload, 1) := by decide +kernel
theorem d_MO_byteAt_42 : decode b_MO_byteAt 42 = .ok (.goto 4, 3) := by decide +kernel
theorem d_MO_byteAt_45 : decode b_MO_byteAt 45 = .ok (.iconst 0, 1) := by decide +kernel
theorem d_MO_byteAt_46 : decode b_MO_byteAt 46 = .ok (.ireturn, 1) := by decide +kernel
theorem d_MO_poke_0 : decode b_MO_poke 0 = .ok (.aload_n 0, 1) := by decide +kernel
theorem d_MO_poke_1 : decode b_MO_poke 1 = .ok (.aload_n 0, 1) := by decide +kernel
theorem d_MO_poke_2 : decode b_MO_poke 2 = .ok (.iload_n 1, 1) := by decide +kernel
theorem d_MO_poke_3 : decode b_MO_poke 3 = .ok (.invokevirtual 78, 3) := by decide +kernel
theorem d_MO_poke_6 : decode b_MO_poke 6 = .ok (.ifCond .eq 29, 3) := by decide +kernel
theorem d_MO_poke_9 : decode b_MO_poke 9 = .ok (.iload_n 2, 1) := by decide +kernel
theorem d_MO_poke_10 : decode b_MO_poke 10 = .ok (.ifCond .lt 25, 3) := by decide +kernel
theorem d_MO_poke_13 : decode b_MO_poke 13 = .ok (.iload_n 2, 1) := by decide +kernel
theorem d_MO_poke_14 : decode b_MO_poke 14 = .ok (.bipush 64, 2) := by decide +kernel
theorem d_MO_poke_16 : decode b_MO_poke 16 = .ok (.if_icmp .ge 19, 3) := by decide +kernel
theorem d_MO_poke_19 : decode b_MO_poke 19 = .ok (.iload_n 3, 1) := by decide +kernel
theorem d_MO_poke_20 : decode b_MO_poke 20 = .ok (.iconst 1, 1) := by decide +kernel
theorem d_MO_poke_21 : decode b_MO_poke 21 = .ok (.if_icmp .lt 14, 3) := by decide +kernel
theorem d_MO_poke_24 : decode b_MO_poke 24 = .ok (.iload_n 3, 1) := by decide +kernel
theorem d_MO_poke_25 : decode b_MO_poke 25 = .ok (.sipush 255, 3) := by decide +kernel
theorem d_MO_poke_28 : decode b_MO_poke 28 = .ok (.if_icmp .gt 7, 3) := by decide +kernel
theorem d_MO_poke_31 : decode b_MO_poke 31 = .ok (.iconst 1, 1) := by decide +kernel
theorem d_MO_poke_32 : decode b_MO_poke 32 = .ok (.goto 4, 3) := by decide +kernel
theorem d_MO_poke_35 : decode b_MO_poke 35 = .ok (.iconst 0, 1) := by decide +kernel
theorem d_MO_poke_36 : decode b_MO_poke 36 = .ok (.invokevirtual 101, 3) := by decide +kernel
theorem d_MO_poke_39 : decode b_MO_poke 39 = .ok (.ifCond .ne 5, 3) := by decide +kernel
theorem d_MO_poke_42 : decode b_MO_poke 42 = .ok (.iconst 0, 1) := by decide +kernel
theorem d_MO_poke_43 : decode b_MO_poke 43 = .ok (.ireturn, 1) := by decide +kernel
theorem d_MO_poke_44 : decode b_MO_poke 44 = .ok (.aload_n 0, 1) := by decide +kernel
theorem d_MO_poke_45 : decode b_MO_poke 45 = .ok (.iload_n 1, 1) := by decide +kernel
theorem d_MO_poke_46 : decode b_MO_poke 46 = .ok (.invokevirtual 82, 3) := by decide +kernel
theorem d_MO_poke_49 : decode b_MO_poke 49 = .ok (.iload_n 2, 1) := by decide +kernel
theorem d_MO_poke_50 : decode b_MO_poke 50 = .ok (.iadd, 1) := by decide +kernel
theorem d_MO_poke_51 : decode b_MO_poke 51 = .ok (.istore 4, 2) := by decide +kernel
theorem d_MO_poke_53 : decode b_MO_poke 53 = .ok (.aload_n 0, 1) := by decide +kernel
theorem d_MO_poke_54 : decode b_MO_poke 54 = .ok (.getfield 7, 3) := by decide +kernel
theorem d_MO_poke_57 : decode b_MO_poke 57 = .ok (.iload 4, 2) := by decide +kernel
theorem d_MO_poke_59 : decode b_MO_poke 59 = .ok (.aload_n 0, 1) := by decide +kernel
theorem d_MO_poke_60 : decode b_MO_poke 60 = .ok (.getfield 7, 3) := by decide +kernel
theorem d_MO_poke_63 : decode b_MO_poke 63 = .ok (.iload 4, 2) := by decide +kernel
theorem d_MO_poke_65 : decode b_MO_poke 65 = .ok (.iaload, 1) := by decide +kernel
theorem d_MO_poke_66 : decode b_MO_poke 66 = .ok (.iload_n 3, 1) := by decide +kernel
theorem d_MO_poke_67 : decode b_MO_poke 67 = .ok (.ixor, 1) := by decide +kernel
theorem d_MO_poke_68 : decode b_MO_poke 68 = .ok (.iastore, 1) := by decide +kernel
theorem d_MO_poke_69 : decode b_MO_poke 69 = .ok (.aload_n 0, 1) := by decide +kernel
theorem d_MO_poke_70 : decode b_MO_poke 70 = .ok (.getfield 7, 3) := by decide +kernel
theorem d_MO_poke_73 : decode b_MO_poke 73 = .ok (.iload 4, 2) := by decide +kernel
theorem d_MO_poke_75 : decode b_MO_poke 75 = .ok (.iaload, 1) := by decide +kernel
theorem d_MO_poke_76 : decode b_MO_poke 76 = .ok (.ireturn, 1) := by decide +kernel
theorem d_MO_badAt_0 : decode b_MO_badAt 0 = .ok (.aload_n 0, 1) := by decide +kernel
theorem d_MO_badAt_1 : decode b_MO_badAt 1 = .ok (.iload_n 1, 1) := by decide +kernel
theorem d_MO_badAt_2 : decode b_MO_badAt 2 = .ok (.ifCond .lt 7, 3) := by decide +kernel
theorem d_MO_badAt_5 : decode b_MO_badAt 5 = .ok (.iconst 1, 1) := by decide +kernel
theorem d_MO_badAt_6 : decode b_MO_badAt 6 = .ok (.goto 4, 3) := by decide +kernel
theorem d_MO_badAt_9 : decode b_MO_badAt 9 = .ok (.iconst 0, 1) := by decide +kernel
theorem d_MO_badAt_10 : decode b_MO_badAt 10 = .ok (.invokevirtual 101, 3) := by decide +kernel
theorem d_MO_badAt_13 : decode b_MO_badAt 13 = .ok (.ifCond .ne 5, 3) := by decide +kernel
theorem d_MO_badAt_16 : decode b_MO_badAt 16 = .ok (.iconst 0, 1) := by decide +kernel
theorem d_MO_badAt_17 : decode b_MO_badAt 17 = .ok (.ireturn, 1) := by decide +kernel
theorem d_MO_badAt_18 : decode b_MO_badAt 18 = .ok (.iconst 0, 1) := by decide +kernel
theorem d_MO_badAt_19 : decode b_MO_badAt 19 = .ok (.istore_n 2, 1) := by decide +kernel
theorem d_MO_badAt_20 : decode b_MO_badAt 20 = .ok (.aload_n 0, 1) := by decide +kernel
theorem d_MO_badAt_21 : decode b_MO_badAt 21 = .ok (.getfield 64, 3) := by decide +kernel
theorem d_MO_badAt_24 : decode b_MO_badAt 24 = .ok (.istore_n 3, 1) := by decide +kernel
theorem d_MO_badAt_25 : decode b_MO_badAt 25 = .ok (.iload_n 3, 1) := by decide +kernel
theorem d_MO_badAt_26 : decode b_MO_badAt 26 = .ok (.aload_n 0, 1) := by decide +kernel
theorem d_MO_badAt_27 : decode b_MO_badAt 27 = .ok (.getfield 67, 3) := by decide +kernel
theorem d_MO_badAt_30 : decode b_MO_badAt 30 = .ok (.if_icmp .ge 48, 3) := by decide +kernel
theorem d_MO_badAt_33 : decode b_MO_badAt 33 = .ok (.aload_n 0, 1) := by decide +kernel
theorem d_MO_badAt_34 : decode b_MO_badAt 34 = .ok (.iload_n 3, 1) := by decide +kernel
theorem d_MO_badAt_35 : decode b_MO_badAt 35 = .ok (.invokevirtual 82, 3) := by decide +kernel
theorem d_MO_badAt_38 : decode b_MO_badAt 38 = .ok (.istore 4, 2) := by decide +kernel
theorem d_MO_badAt_40 : decode b_MO_badAt 40 = .ok (.aload_n 0, 1) := by decide +kernel
theorem d_MO_badAt_41 : decode b_MO_badAt 41 = .ok (.iload 4, 2) := by decide +kernel
theorem d_MO_badAt_43 : decode b_MO_badAt 43 = .ok (.invokevirtual 86, 3) := by decide +kernel
theorem d_MO_badAt_46 : decode b_MO_badAt 46 = .ok (.ifCond .eq 16, 3) := by decide +kernel
theorem d_MO_badAt_49 : decode b_MO_badAt 49 = .ok (.aload_n 0, 1) := by decide +kernel
theorem d_MO_badAt_50 : decode b_MO_badAt 50 = .ok (.iload 4, 2) := by decide +kernel
theorem d_MO_badAt_52 : decode b_MO_badAt 52 = .ok (.bipush 40, 2) := by decide +kernel
theorem d_MO_badAt_54 : decode b_MO_badAt 54 = .ok (.iadd, 1) := by decide +kernel
theorem d_MO_badAt_55 : decode b_MO_badAt 55 = .ok (.invokevirtual 89, 3) := by decide +kernel
theorem d_MO_badAt_58 : decode b_MO_badAt 58 = .ok (.iload_n 3, 1) := by decide +kernel
theorem d_MO_badAt_59 : decode b_MO_badAt 59 = .ok (.if_icmp .eq 13, 3) := by decide +kernel
theorem d_MO_badAt_62 : decode b_MO_badAt 62 = .ok (.iload_n 2, 1) := by decide +kernel
theorem d_MO_badAt_63 : decode b_MO_badAt 63 = .ok (.iload_n 1, 1) := by decide +kernel
theorem d_MO_badAt_64 : decode b_MO_badAt 64 = .ok (.if_icmp .ne 5, 3) := by decide +kernel
theorem d_MO_badAt_67 : decode b_MO_badAt 67 = .ok (.iload_n 3, 1) := by decide +kernel
theorem d_MO_badAt_68 : decode b_MO_badAt 68 = .ok (.ireturn, 1) := by decide +kernel
theorem d_MO_badAt_69 : decode b_MO_badAt 69 = .ok (.iinc 2 1, 3) := by decide +kernel
theorem d_MO_badAt_72 : decode b_MO_badAt 72 = .ok (.iinc 3 1, 3) := by decide +kernel
theorem d_MO_badAt_75 : decode b_MO_badAt 75 = .ok (.goto (-50), 3) := by decide +kernel
theorem d_MO_badAt_78 : decode b_MO_badAt 78 = .ok (.iconst (-1), 1) := by decide +kernel
theorem d_MO_badAt_79 : decode b_MO_badAt 79 = .ok (.ireturn, 1) := by decide +kernel
theorem d_MO_told_0 : decode b_MO_told 0 = .ok (.aload_n 0, 1) := by decide +kernel
theorem d_MO_told_1 : decode b_MO_told 1 = .ok (.iload_n 1, 1) := by decide +kernel
theorem d_MO_told_2 : decode b_MO_told 2 = .ok (.ifCond .lt 12, 3) := by decide +kernel
theorem d_MO_told_5 : decode b_MO_told 5 = .ok (.iload_n 1, 1) := by decide +kernel
theorem d_MO_told_6 : decode b_MO_told 6 = .ok (.iconst 4, 1) := by decide +kernel
theorem d_MO_told_7 : decode b_MO_told 7 = .ok (.if_icmp .gt 7, 3) := by decide +kernel
theorem d_MO_told_10 : decode b_MO_told 10 = .ok (.iconst 1, 1) := by decide +kernel
theorem d_MO_told_11 : decode b_MO_told 11 = .ok (.goto 4, 3) := by decide +kernel
theorem d_MO_told_14 : decode b_MO_told 14 = .ok (.iconst 0, 1) := by decide +kernel
theorem d_MO_told_15 : decode b_MO_told 15 = .ok (.invokevirtual 101, 3) := by decide +kernel
theorem d_MO_told_18 : decode b_MO_told 18 = .ok (.ifCond .ne 5, 3) := by decide +kernel
theorem d_MO_told_21 : decode b_MO_told 21 = .ok (.iconst 0, 1) := by decide +kernel
theorem d_MO_told_22 : decode b_MO_told 22 = .ok (.ireturn, 1) := by decide +kernel
theorem d_MO_told_23 : decode b_MO_told 23 = .ok (.iload_n 1, 1) := by decide +kernel
theorem d_MO_told_24 : decode b_MO_told 24 = .ok (.ifCond .ne 10, 3) := by decide +kernel
theorem d_MO_told_27 : decode b_MO_told 27 = .ok (.aload_n 0, 1) := by decide +kernel
theorem d_MO_told_28 : decode b_MO_told 28 = .ok (.getfield 64, 3) := by decide +kernel
theorem d_MO_told_31 : decode b_MO_told 31 = .ok (.goto 43, 3) := by decide +kernel
theorem d_MO_told_34 : decode b_MO_told 34 = .ok (.iload_n 1, 1) := by decide +kernel
theorem d_MO_told_35 : decode b_MO_told 35 = .ok (.iconst 1, 1) := by decide +kernel
theorem d_MO_told_36 : decode b_MO_told 36 = .ok (.if_icmp .ne 10, 3) := by decide +kernel
theorem d_MO_told_39 : decode b_MO_told 39 = .ok (.aload_n 0, 1) := by decide +kernel
theorem d_MO_told_40 : decode b_MO_told 40 = .ok (.getfield 67, 3) := by decide +kernel
theorem d_MO_told_43 : decode b_MO_told 43 = .ok (.goto 31, 3) := by decide +kernel
theorem d_MO_told_46 : decode b_MO_told 46 = .ok (.iload_n 1, 1) := by decide +kernel
theorem d_MO_told_47 : decode b_MO_told 47 = .ok (.iconst 2, 1) := by decide +kernel
theorem d_MO_told_48 : decode b_MO_told 48 = .ok (.if_icmp .ne 10, 3) := by decide +kernel
theorem d_MO_told_51 : decode b_MO_told 51 = .ok (.aload_n 0, 1) := by decide +kernel
theorem d_MO_told_52 : decode b_MO_told 52 = .ok (.getfield 137, 3) := by decide +kernel
theorem d_MO_told_55 : decode b_MO_told 55 = .ok (.goto 19, 3) := by decide +kernel
theorem d_MO_told_58 : decode b_MO_told 58 = .ok (.iload_n 1, 1) := by decide +kernel
theorem d_MO_told_59 : decode b_MO_told 59 = .ok (.iconst 3, 1) := by decide +kernel
theorem d_MO_told_60 : decode b_MO_told 60 = .ok (.if_icmp .ne 10, 3) := by decide +kernel
theorem d_MO_told_63 : decode b_MO_told 63 = .ok (.aload_n 0, 1) := by decide +kernel
theorem d_MO_told_64 : decode b_MO_told 64 = .ok (.getfield 147, 3) := by decide +kernel
theorem d_MO_told_67 : decode b_MO_told 67 = .ok (.goto 7, 3) := by decide +kernel
theorem d_MO_told_70 : decode b_MO_told 70 = .ok (.aload_n 0, 1) := by decide +kernel
theorem d_MO_told_71 : decode b_MO_told 71 = .ok (.getfield 95, 3) := by decide +kernel
theorem d_MO_told_74 : decode b_MO_told 74 = .ok (.ireturn, 1) := by decide +kernel
theorem d_DR_init_0 : decode b_DR_init 0 = .ok (.aload_n 0, 1) := by decide +kernel
theorem d_DR_init_1 : decode b_DR_init 1 = .ok (.invokespecial 3, 3) := by decide +kernel
theorem d_DR_init_4 : decode b_DR_init 4 = .ok (.aload_n 0, 1) := by decide +kernel
theorem d_DR_init_5 : decode b_DR_init 5 = .ok (.sipush 512, 3) := by decide +kernel
theorem d_DR_init_8 : decode b_DR_init 8 = .ok (.newarray .int, 2) := by decide +kernel
theorem d_DR_init_10 : decode b_DR_init 10 = .ok (.putfield 9, 3) := by decide +kernel
theorem d_DR_init_13 : decode b_DR_init 13 = .ok (.aload_n 0, 1) := by decide +kernel
theorem d_DR_init_14 : decode b_DR_init 14 = .ok (.sipush 512, 3) := by decide +kernel
theorem d_DR_init_17 : decode b_DR_init 17 = .ok (.newarray .int, 2) := by decide +kernel
theorem d_DR_init_19 : decode b_DR_init 19 = .ok (.putfield 15, 3) := by decide +kernel
theorem d_DR_init_22 : decode b_DR_init 22 = .ok (.return_, 1) := by decide +kernel
theorem d_DR_size_0 : decode b_DR_size 0 = .ok (.aload_n 0, 1) := by decide +kernel
theorem d_DR_size_1 : decode b_DR_size 1 = .ok (.getfield 18, 3) := by decide +kernel
theorem d_DR_size_4 : decode b_DR_size 4 = .ok (.ireturn, 1) := by decide +kernel
theorem d_DR_has_0 : decode b_DR_has 0 = .ok (.aload_n 0, 1) := by decide +kernel
theorem d_DR_has_1 : decode b_DR_has 1 = .ok (.getfield 9, 3) := by decide +kernel
theorem d_DR_has_4 : decode b_DR_has 4 = .ok (.iload_n 1, 1) := by decide +kernel
theorem d_DR_has_5 : decode b_DR_has 5 = .ok (.iaload, 1) := by decide +kernel
theorem d_DR_has_6 : decode b_DR_has 6 = .ok (.ifCond .eq 7, 3) := by decide +kernel
theorem d_DR_has_9 : decode b_DR_has 9 = .ok (.iconst 1, 1) := by decide +kernel
theorem d_DR_has_10 : decode b_DR_has 10 = .ok (.goto 4, 3) := by decide +kernel
theorem d_DR_has_13 : decode b_DR_has 13 = .ok (.iconst 0, 1) := by decide +kernel
theorem d_DR_has_14 : decode b_DR_has 14 = .ok (.ireturn, 1) := by decide +kernel
theorem d_DR_isDropped_0 : decode b_DR_isDropped 0 = .ok (.aload_n 0, 1) := by decide +kernel
theorem d_DR_isDropped_1 : decode b_DR_isDropped 1 = .ok (.getfield 9, 3) := by decide +kernel
theorem d_DR_isDropped_4 : decode b_DR_isDropped 4 = .ok (.iload_n 1, 1) := by decide +kernel
theorem d_DR_isDropped_5 : decode b_DR_isDropped 5 = .ok (.iaload, 1) := by decide +kernel
theorem d_DR_isDropped_6 : decode b_DR_isDropped 6 = .ok (.iconst 2, 1) := by decide +kernel
theorem d_DR_isDropped_7 : decode b_DR_isDropped 7 = .ok (.if_icmp .ne 7, 3) := by decide +kernel
theorem d_DR_isDropped_10 : decode b_DR_isDropped 10 = .ok (.iconst 1, 1) := by decide +kernel
theorem d_DR_isDropped_11 : decode b_DR_isDropped 11 = .ok (.goto 4, 3) := by decide +kernel
theorem d_DR_isDropped_14 : decode b_DR_isDropped 14 = .ok (.iconst 0, 1) := by decide +kernel
theorem d_DR_isDropped_15 : decode b_DR_isDropped 15 = .ok (.ireturn, 1) := by decide +kernel
theorem d_DR_valueOf_0 : decode b_DR_valueOf 0 = .ok (.aload_n 0, 1) := by decide +kernel
theorem d_DR_valueOf_1 : decode b_DR_valueOf 1 = .ok (.getfield 15, 3) := by decide +kernel
theorem d_DR_valueOf_4 : decode b_DR_valueOf 4 = .ok (.iload_n 1, 1) := by decide +kernel
theorem d_DR_valueOf_5 : decode b_DR_valueOf 5 = .ok (.iaload, 1) := by decide +kernel
theorem d_DR_valueOf_6 : decode b_DR_valueOf 6 = .ok (.ireturn, 1) := by decide +kernel
theorem d_DR_setValue_0 : decode b_DR_setValue 0 = .ok (.aload_n 0, 1) := by decide +kernel
theorem d_DR_setValue_1 : decode b_DR_setValue 1 = .ok (.iload_n 1, 1) := by decide +kernel
theorem d_DR_setValue_2 : decode b_DR_setValue 2 = .ok (.iconst 1, 1) := by decide +kernel
theorem d_DR_setValue_3 : decode b_DR_setValue 3 = .ok (.invokevirtual 22, 3) := by decide +kernel
theorem d_DR_setValue_6 : decode b_DR_setValue 6 = .ok (.aload_n 0, 1) := by decide +kernel
theorem d_DR_setValue_7 : decode b_DR_setValue 7 = .ok (.getfield 15, 3) := by decide +kernel
theorem d_DR_setValue_10 : decode b_DR_setValue 10 = .ok (.iload_n 1, 1) := by decide +kernel
theorem d_DR_setValue_11 : decode b_DR_setValue 11 = .ok (.iload_n 2, 1) := by decide +kernel
theorem d_DR_setValue_12 : decode b_DR_setValue 12 = .ok (.iastore, 1) := by decide +kernel
theorem d_DR_setValue_13 : decode b_DR_setValue 13 = .ok (.return_, 1) := by decide +kernel
theorem d_DR_setDropped_0 : decode b_DR_setDropped 0 = .ok (.aload_n 0, 1) := by decide +kernel
theorem d_DR_setDropped_1 : decode b_DR_setDropped 1 = .ok (.iload_n 1, 1) := by decide +kernel
theorem d_DR_setDropped_2 : decode b_DR_setDropped 2 = .ok (.iconst 2, 1) := by decide +kernel
theorem d_DR_setDropped_3 : decode b_DR_setDropped 3 = .ok (.invokevirtual 22, 3) := by decide +kernel
theorem d_DR_setDropped_6 : decode b_DR_setDropped 6 = .ok (.return_, 1) := by decide +kernel
theorem d_DR_clear_0 : decode b_DR_clear 0 = .ok (.iconst 0, 1) := by decide +kernel
theorem d_DR_clear_1 : decode b_DR_clear 1 = .ok (.istore_n 1, 1) := by decide +kernel
theorem d_DR_clear_2 : decode b_DR_clear 2 = .ok (.iload_n 1, 1) := by decide +kernel
theorem d_DR_clear_3 : decode b_DR_clear 3 = .ok (.sipush 512, 3) := by decide +kernel
theorem d_DR_clear_6 : decode b_DR_clear 6 = .ok (.if_icmp .ge 16, 3) := by decide +kernel
theorem d_DR_clear_9 : decode b_DR_clear 9 = .ok (.aload_n 0, 1) := by decide +kernel
theorem d_DR_clear_10 : decode b_DR_clear 10 = .ok (.getfield 9, 3) := by decide +kernel
theorem d_DR_clear_13 : decode b_DR_clear 13 = .ok (.iload_n 1, 1) := by decide +kernel
theorem d_DR_clear_14 : decode b_DR_clear 14 = .ok (.iconst 0, 1) := by decide +kernel
theorem d_DR_clear_15 : decode b_DR_clear 15 = .ok (.iastore, 1) := by decide +kernel
theorem d_DR_clear_16 : decode b_DR_clear 16 = .ok (.iinc 1 1, 3) := by decide +kernel
theorem d_DR_clear_19 : decode b_DR_clear 19 = .ok (.goto (-17), 3) := by decide +kernel
theorem d_DR_clear_22 : decode b_DR_clear 22 = .ok (.aload_n 0, 1) := by decide +kernel
theorem d_DR_clear_23 : decode b_DR_clear 23 = .ok (.iconst 0, 1) := by decide +kernel
theorem d_DR_clear_24 : decode b_DR_clear 24 = .ok (.putfield 18, 3) := by decide +kernel
theorem d_DR_clear_27 : decode b_DR_clear 27 = .ok (.return_, 1) := by decide +kernel
theorem d_DR_note_0 : decode b_DR_note 0 = .ok (.aload_n 0, 1) := by decide +kernel
theorem d_DR_note_1 : decode b_DR_note 1 = .ok (.iload_n 1, 1) := by decide +kernel
theorem d_DR_note_2 : decode b_DR_note 2 = .ok (.invokevirtual 26, 3) := by decide +kernel
theorem d_DR_note_5 : decode b_DR_note 5 = .ok (.ifCond .ne 13, 3) := by decide +kernel
theorem d_DR_note_8 : decode b_DR_note 8 = .ok (.aload_n 0, 1) := by decide +kernel
theorem d_DR_note_9 : decode b_DR_note 9 = .ok (.dup, 1) := by decide +kernel
theorem d_DR_note_10 : decode b_DR_note 10 = .ok (.getfield 18, 3) := by decide +kernel
theorem d_DR_note_13 : decode b_DR_note 13 = .ok (.iconst 1, 1) := by decide +kernel
theorem d_DR_note_14 : decode b_DR_note 14 = .ok (.iadd, 1) := by decide +kernel
theorem d_DR_note_15 : decode b_DR_note 15 = .ok (.putfield 18, 3) := by decide +kernel
theorem d_DR_note_18 : decode b_DR_note 18 = .ok (.aload_n 0, 1) := by decide +kernel
theorem d_DR_note_19 : decode b_DR_note 19 = .ok (.getfield 9, 3) := by decide +kernel
theorem d_DR_note_22 : decode b_DR_note 22 = .ok (.iload_n 1, 1) := by decide +kernel
theorem d_DR_note_23 : decode b_DR_note 23 = .ok (.iload_n 2, 1) := by decide +kernel
theorem d_DR_note_24 : decode b_DR_note 24 = .ok (.iastore, 1) := by decide +kernel
theorem d_DR_note_25 : decode b_DR_note 25 = .ok (.return_, 1) := by decide +kernel
theorem d_PG_init_0 : decode b_PG_init 0 = .ok (.aload_n 0, 1) := by decide +kernel
theorem d_PG_init_1 : decode b_PG_init 1 = .ok (.invokespecial 3, 3) := by decide +kernel
theorem d_PG_init_4 : decode b_PG_init 4 = .ok (.aload_n 0, 1) := by decide +kernel
theorem d_PG_init_5 : decode b_PG_init 5 = .ok (.bipush 73, 2) := by decide +kernel
theorem d_PG_init_7 : decode b_PG_init 7 = .ok (.newarray .boolean, 2) := by decide +kernel
theorem d_PG_init_9 : decode b_PG_init 9 = .ok (.putfield 11, 3) := by decide +kernel
theorem d_PG_init_12 : decode b_PG_init 12 = .ok (.aload_n 0, 1) := by decide +kernel
theorem d_PG_init_13 : decode b_PG_init 13 = .ok (.bipush 73, 2) := by decide +kernel
theorem d_PG_init_15 : decode b_PG_init 15 = .ok (.newarray .int, 2) := by decide +kernel
theorem d_PG_init_17 : decode b_PG_init 17 = .ok (.putfield 15, 3) := by decide +kernel
theorem d_PG_init_20 : decode b_PG_init 20 = .ok (.aload_n 0, 1) := by decide +kernel
theorem d_PG_init_21 : decode b_PG_init 21 = .ok (.sipush 584, 3) := by decide +kernel
theorem d_PG_init_24 : decode b_PG_init 24 = .ok (.newarray .int, 2) := by decide +kernel
theorem d_PG_init_26 : decode b_PG_init 26 = .ok (.putfield 19, 3) := by decide +kernel
theorem d_PG_init_29 : decode b_PG_init 29 = .ok (.aload_n 0, 1) := by decide +kernel
theorem d_PG_init_30 : decode b_PG_init 30 = .ok (.bipush 73, 2) := by decide +kernel
theorem d_PG_init_32 : decode b_PG_init 32 = .ok (.newarray .int, 2) := by decide +kernel
theorem d_PG_init_34 : decode b_PG_init 34 = .ok (.putfield 22, 3) := by decide +kernel
theorem d_PG_init_37 : decode b_PG_init 37 = .ok (.aload_n 0, 1) := by decide +kernel
theorem d_PG_init_38 : decode b_PG_init 38 = .ok (.bipush 8, 2) := by decide +kernel
theorem d_PG_init_40 : decode b_PG_init 40 = .ok (.newarray .int, 2) := by decide +kernel
theorem d_PG_init_42 : decode b_PG_init 42 = .ok (.putfield 25, 3) := by decide +kernel
theorem d_PG_init_45 : decode b_PG_init 45 = .ok (.return_, 1) := by decide +kernel
theorem d_PG_clear_0 : decode b_PG_clear 0 = .ok (.iconst 0, 1) := by decide +kernel
theorem d_PG_clear_1 : decode b_PG_clear 1 = .ok (.istore_n 1, 1) := by decide +kernel
theorem d_PG_clear_2 : decode b_PG_clear 2 = .ok (.iload_n 1, 1) := by decide +kernel
theorem d_PG_clear_3 : decode b_PG_clear 3 = .ok (.bipush 73, 2) := by decide +kernel
theorem d_PG_clear_5 : decode b_PG_clear 5 = .ok (.if_icmp .ge 23, 3) := by decide +kernel
theorem d_PG_clear_8 : decode b_PG_clear 8 = .ok (.aload_n 0, 1) := by decide +kernel
theorem d_PG_clear_9 : decode b_PG_clear 9 = .ok (.getfield 11, 3) := by decide +kernel
theorem d_PG_clear_12 : decode b_PG_clear 12 = .ok (.iload_n 1, 1) := by decide +kernel
theorem d_PG_clear_13 : decode b_PG_clear 13 = .ok (.iconst 0, 1) := by decide +kernel
theorem d_PG_clear_14 : decode b_PG_clear 14 = .ok (.bastore, 1) := by decide +kernel
theorem d_PG_clear_15 : decode b_PG_clear 15 = .ok (.aload_n 0, 1) := by decide +kernel
theorem d_PG_clear_16 : decode b_PG_clear 16 = .ok (.getfield 15, 3) := by decide +kernel
theorem d_PG_clear_19 : decode b_PG_clear 19 = .ok (.iload_n 1, 1) := by decide +kernel
theorem d_PG_clear_20 : decode b_PG_clear 20 = .ok (.iconst 0, 1) := by decide +kernel
theorem d_PG_clear_21 : decode b_PG_clear 21 = .ok (.iastore, 1) := by decide +kernel
theorem d_PG_clear_22 : decode b_PG_clear 22 = .ok (.iinc 1 1, 3) := by decide +kernel
theorem d_PG_clear_25 : decode b_PG_clear 25 = .ok (.goto (-23), 3) := by decide +kernel
theorem d_PG_clear_28 : decode b_PG_clear 28 = .ok (.iconst 0, 1) := by decide +kernel
theorem d_PG_clear_29 : decode b_PG_clear 29 = .ok (.istore_n 1, 1) := by decide +kernel
theorem d_PG_clear_30 : decode b_PG_clear 30 = .ok (.iload_n 1, 1) := by decide +kernel
theorem d_PG_clear_31 : decode b_PG_clear 31 = .ok (.sipush 584, 3) := by decide +kernel
theorem d_PG_clear_34 : decode b_PG_clear 34 = .ok (.if_icmp .ge 16, 3) := by decide +kernel
theorem d_PG_clear_37 : decode b_PG_clear 37 = .ok (.aload_n 0, 1) := by decide +kernel
theorem d_PG_clear_38 : decode b_PG_clear 38 = .ok (.getfield 19, 3) := by decide +kernel
theorem d_PG_clear_41 : decode b_PG_clear 41 = .ok (.iload_n 1, 1) := by decide +kernel
theorem d_PG_clear_42 : decode b_PG_clear 42 = .ok (.iconst 0, 1) := by decide +kernel
theorem d_PG_clear_43 : decode b_PG_clear 43 = .ok (.iastore, 1) := by decide +kernel
theorem d_PG_clear_44 : decode b_PG_clear 44 = .ok (.iinc 1 1, 3) := by decide +kernel
theorem d_PG_clear_47 : decode b_PG_clear 47 = .ok (.goto (-17), 3) := by decide +kernel
theorem d_PG_clear_50 : decode b_PG_clear 50 = .ok (.aload_n 0, 1) := by decide +kernel
theorem d_PG_clear_51 : decode b_PG_clear 51 = .ok (.iconst 0, 1) := by decide +kernel
theorem d_PG_clear_52 : decode b_PG_clear 52 = .ok (.putfield 28, 3) := by decide +kernel
theorem d_PG_clear_55 : decode b_PG_clear 55 = .ok (.return_, 1) := by decide +kernel
theorem d_PG_markAll_0 : decode b_PG_markAll 0 = .ok (.iconst 0, 1) := by decide +kernel
theorem d_PG_markAll_1 : decode b_PG_markAll 1 = .ok (.istore_n 1, 1) := by decide +kernel
theorem d_PG_markAll_2 : decode b_PG_markAll 2 = .ok (.iload_n 1, 1) := by decide +kernel
theorem d_PG_markAll_3 : decode b_PG_markAll 3 = .ok (.bipush 73, 2) := by decide +kernel
theorem d_PG_markAll_5 : decode b_PG_markAll 5 = .ok (.if_icmp .ge 16, 3) := by decide +kernel
theorem d_PG_markAll_8 : decode b_PG_markAll 8 = .ok (.aload_n 0, 1) := by decide +kernel
theorem d_PG_markAll_9 : decode b_PG_markAll 9 = .ok (.getfield 11, 3) := by decide +kernel
theorem d_PG_markAll_12 : decode b_PG_markAll 12 = .ok (.iload_n 1, 1) := by decide +kernel
theorem d_PG_markAll_13 : decode b_PG_markAll 13 = .ok (.iconst 1, 1) := by decide +kernel
theorem d_PG_markAll_14 : decode b_PG_markAll 14 = .ok (.bastore, 1) := by decide +kernel
theorem d_PG_markAll_15 : decode b_PG_markAll 15 = .ok (.iinc 1 1, 3) := by decide +kernel
theorem d_PG_markAll_18 : decode b_PG_markAll 18 = .ok (.goto (-16), 3) := by decide +kernel
theorem d_PG_markAll_21 : decode b_PG_markAll 21 = .ok (.return_, 1) := by decide +kernel
theorem d_PG_markKeysOf_0 : decode b_PG_markKeysOf 0 = .ok (.iconst 0, 1) := by decide +kernel
theorem d_PG_markKeysOf_1 : decode b_PG_markKeysOf 1 = .ok (.istore_n 2, 1) := by decide +kernel
theorem d_PG_markKeysOf_2 : decode b_PG_markKeysOf 2 = .ok (.iload_n 2, 1) := by decide +kernel
theorem d_PG_markKeysOf_3 : decode b_PG_markKeysOf 3 = .ok (.sipush 512, 3) := by decide +kernel
theorem d_PG_markKeysOf_6 : decode b_PG_markKeysOf 6 = .ok (.if_icmp .ge 46, 3) := by decide +kernel
theorem d_PG_markKeysOf_9 : decode b_PG_markKeysOf 9 = .ok (.aload_n 1, 1) := by decide +kernel
theorem d_PG_markKeysOf_10 : decode b_PG_markKeysOf 10 = .ok (.iload_n 2, 1) := by decide +kernel
theorem d_PG_markKeysOf_11 : decode b_PG_markKeysOf 11 = .ok (.invokevirtual 32, 3) := by decide +kernel
theorem d_PG_markKeysOf_14 : decode b_PG_markKeysOf 14 = .ok (.ifCond .eq 32, 3) := by decide +kernel
theorem d_PG_markKeysOf_17 : decode b_PG_markKeysOf 17 = .ok (.iload_n 2, 1) := by decide +kernel
theorem d_PG_markKeysOf_18 : decode b_PG_markKeysOf 18 = .ok (.iconst 3, 1) := by decide +kernel
theorem d_PG_markKeysOf_19 : decode b_PG_markKeysOf 19 = .ok (.ishr, 1) := by decide +kernel
theorem d_PG_markKeysOf_20 : decode b_PG_markKeysOf 20 = .ok (.istore_n 3, 1) := by decide +kernel
theorem d_PG_markKeysOf_21 : decode b_PG_markKeysOf 21 = .ok (.aload_n 0, 1) := by decide +kernel
theorem d_PG_markKeysOf_22 : decode b_PG_markKeysOf 22 = .ok (.getfield 11, 3) := by decide +kernel
theorem d_PG_markKeysOf_25 : decode b_PG_markKeysOf 25 = .ok (.iload_n 3, 1) := by decide +kernel
theorem d_PG_markKeysOf_26 : decode b_PG_markKeysOf 26 = .ok (.iconst 1, 1) := by decide +kernel
theorem d_PG_markKeysOf_27 : decode b_PG_markKeysOf 27 = .ok (.bastore, 1) := by decide +kernel
theorem d_PG_markKeysOf_28 : decode b_PG_markKeysOf 28 = .ok (.aload_n 0, 1) := by decide +kernel
theorem d_PG_markKeysOf_29 : decode b_PG_markKeysOf 29 = .ok (.getfield 11, 3) := by decide +kernel
theorem d_PG_markKeysOf_32 : decode b_PG_markKeysOf 32 = .ok (.iload_n 3, 1) := by decide +kernel
theorem d_PG_markKeysOf_33 : decode b_PG_markKeysOf 33 = .ok (.invokestatic 38, 3) := by decide +kernel
theorem d_PG_markKeysOf_36 : decode b_PG_markKeysOf 36 = .ok (.iconst 1, 1) := by decide +kernel
theorem d_PG_markKeysOf_37 : decode b_PG_markKeysOf 37 = .ok (.bastore, 1) := by decide +kernel
theorem d_PG_markKeysOf_38 : decode b_PG_markKeysOf 38 = .ok (.aload_n 0, 1) := by decide +kernel
theorem d_PG_markKeysOf_39 : decode b_PG_markKeysOf 39 = .ok (.getfield 11, 3) := by decide +kernel
theorem d_PG_markKeysOf_42 : decode b_PG_markKeysOf 42 = .ok (.bipush 72, 2) := by decide +kernel
theorem d_PG_markKeysOf_44 : decode b_PG_markKeysOf 44 = .ok (.iconst 1, 1) := by decide +kernel
theorem d_PG_markKeysOf_45 : decode b_PG_markKeysOf 45 = .ok (.bastore, 1) := by decide +kernel
theorem d_PG_markKeysOf_46 : decode b_PG_markKeysOf 46 = .ok (.iinc 2 1, 3) := by decide +kernel
theorem d_PG_markKeysOf_49 : decode b_PG_markKeysOf 49 = .ok (.goto (-47), 3) := by decide +kernel
theorem d_PG_markKeysOf_52 : decode b_PG_markKeysOf 52 = .ok (.return_, 1) := by decide +kernel
theorem d_PG_readTree_0 : decode b_PG_readTree 0 = .ok (.iload_n 2, 1) := by decide +kernel
theorem d_PG_readTree_1 : decode b_PG_readTree 1 = .ok (.iconst (-1), 1) := by decide +kernel
theorem d_PG_readTree_2 : decode b_PG_readTree 2 = .ok (.if_icmp .ne 5, 3) := by decide +kernel
theorem d_PG_readTree_5 : decode b_PG_readTree 5 = .ok (.iconst 1, 1) := by decide +kernel
theorem d_PG_readTree_6 : decode b_PG_readTree 6 = .ok (.ireturn, 1) := by decide +kernel
theorem d_PG_readTree_7 : decode b_PG_readTree 7 = .ok (.aload_n 1, 1) := by decide +kernel
theorem d_PG_readTree_8 : decode b_PG_readTree 8 = .ok (.iload_n 2, 1) := by decide +kernel
theorem d_PG_readTree_9 : decode b_PG_readTree 9 = .ok (.iconst 4, 1) := by decide +kernel
theorem d_PG_readTree_10 : decode b_PG_readTree 10 = .ok (.invokevirtual 42, 3) := by decide +kernel
theorem d_PG_readTree_13 : decode b_PG_readTree 13 = .ok (.ifCond .eq 5, 3) := by decide +kernel
theorem d_PG_readTree_16 : decode b_PG_readTree 16 = .ok (.iconst 0, 1) := by decide +kernel
theorem d_PG_readTree_17 : decode b_PG_readTree 17 = .ok (.ireturn, 1) := by decide +kernel
theorem d_PG_readTree_18 : decode b_PG_readTree 18 = .ok (.aload_n 0, 1) := by decide +kernel
theorem d_PG_readTree_19 : decode b_PG_readTree 19 = .ok (.aload_n 1, 1) := by decide +kernel
theorem d_PG_readTree_20 : decode b_PG_readTree 20 = .ok (.iload_n 2, 1) := by decide +kernel
theorem d_PG_readTree_21 : decode b_PG_readTree 21 = .ok (.iconst 1, 1) := by decide +kernel
theorem d_PG_readTree_22 : decode b_PG_readTree 22 = .ok (.invokevirtual 48, 3) := by decide +kernel
theorem d_PG_readTree_25 : decode b_PG_readTree 25 = .ok (.putfield 28, 3) := by decide +kernel
theorem d_PG_readTree_28 : decode b_PG_readTree 28 = .ok (.aload_n 1, 1) := by decide +kernel
theorem d_PG_readTree_29 : decode b_PG_readTree 29 = .ok (.iload_n 2, 1) := by decide +kernel
theorem d_PG_readTree_30 : decode b_PG_readTree 30 = .ok (.iconst 0, 1) := by decide +kernel
theorem d_PG_readTree_31 : decode b_PG_readTree 31 = .ok (.invokevirtual 52, 3) := by decide +kernel
theorem d_PG_readTree_34 : decode b_PG_readTree 34 = .ok (.ifCond .ne 5, 3) := by decide +kernel
theorem d_PG_readTree_37 : decode b_PG_readTree 37 = .ok (.iconst 1, 1) := by decide +kernel
theorem d_PG_readTree_38 : decode b_PG_readTree 38 = .ok (.ireturn, 1) := by decide +kernel
theorem d_PG_readTree_39 : decode b_PG_readTree 39 = .ok (.aload_n 0, 1) := by decide +kernel
theorem d_PG_readTree_40 : decode b_PG_readTree 40 = .ok (.aload_n 1, 1) := by decide +kernel
theorem d_PG_readTree_41 : decode b_PG_readTree 41 = .ok (.bipush 72, 2) := by decide +kernel
theorem d_PG_readTree_43 : decode b_PG_readTree 43 = .ok (.aload_n 1, 1) := by decide +kernel
theorem d_PG_readTree_44 : decode b_PG_readTree 44 = .ok (.iload_n 2, 1) := by decide +kernel
theorem d_PG_readTree_45 : decode b_PG_readTree 45 = .ok (.iconst 0, 1) := by decide +kernel
theorem d_PG_readTree_46 : decode b_PG_readTree 46 = .ok (.invokevirtual 48, 3) := by decide +kernel
theorem d_PG_readTree_49 : decode b_PG_readTree 49 = .ok (.invokevirtual 55, 3) := by decide +kernel
theorem d_PG_readTree_52 : decode b_PG_readTree 52 = .ok (.ifCond .ne 5, 3) := by decide +kernel
theorem d_PG_readTree_55 : decode b_PG_readTree 55 = .ok (.iconst 0, 1) := by decide +kernel
theorem d_PG_readTree_56 : decode b_PG_readTree 56 = .ok (.ireturn, 1) := by decide +kernel
theorem d_PG_readTree_57 : decode b_PG_readTree 57 = .ok (.bipush 71, 2) := by decide +kernel
theorem d_PG_readTree_59 : decode b_PG_readTree 59 = .ok (.istore_n 3, 1) := by decide +kernel
theorem d_PG_readTree_60 : decode b_PG_readTree 60 = .ok (.iload_n 3, 1) := by decide +kernel
theorem d_PG_readTree_61 : decode b_PG_readTree 61 = .ok (.ifCond .lt 46, 3) := by decide +kernel
theorem d_PG_readTree_64 : decode b_PG_readTree 64 = .ok (.aload_n 0, 1) := by decide +kernel
theorem d_PG_readTree_65 : decode b_PG_readTree 65 = .ok (.getfield 11, 3) := by decide +kernel
theorem d_PG_readTree_68 : decode b_PG_readTree 68 = .ok (.iload_n 3, 1) := by decide +kernel
theorem d_PG_readTree_69 : decode b_PG_readTree 69 = .ok (.baload, 1) := by decide +kernel
theorem d_PG_readTree_70 : decode b_PG_readTree 70 = .ok (.ifCond .eq 31, 3) := by decide +kernel
theorem d_PG_readTree_73 : decode b_PG_readTree 73 = .ok (.aload_n 0, 1) := by decide +kernel
theorem d_PG_readTree_74 : decode b_PG_readTree 74 = .ok (.iload_n 3, 1) := by decide +kernel
theorem d_PG_readTree_75 : decode b_PG_readTree 75 = .ok (.invokevirtual 59, 3) := by decide +kernel
theorem d_PG_readTree_78 : decode b_PG_readTree 78 = .ok (.ifCond .eq 23, 3) := by decide +kernel
theorem d_PG_readTree_81 : decode b_PG_readTree 81 = .ok (.aload_n 0, 1) := by decide +kernel
theorem d_PG_readTree_82 : decode b_PG_readTree 82 = .ok (.aload_n 1, 1) := by decide +kernel
theorem d_PG_readTree_83 : decode b_PG_readTree 83 = .ok (.iload_n 3, 1) := by decide +kernel
theorem d_PG_readTree_84 : decode b_PG_readTree 84 = .ok (.aload_n 0, 1) := by decide +kernel
theorem d_PG_readTree_85 : decode b_PG_readTree 85 = .ok (.getfield 19, 3) := by decide +kernel
theorem d_PG_readTree_88 : decode b_PG_readTree 88 = .ok (.iload_n 3, 1) := by decide +kernel
theorem d_PG_readTree_89 : decode b_PG_readTree 89 = .ok (.invokestatic 62, 3) := by decide +kernel
theorem d_PG_readTree_92 : decode b_PG_readTree 92 = .ok (.iaload, 1) := by decide +kernel
theorem d_PG_readTree_93 : decode b_PG_readTree 93 = .ok (.invokevirtual 55, 3) := by decide +kernel
theorem d_PG_readTree_96 : decode b_PG_readTree 96 = .ok (.ifCond .ne 5, 3) := by decide +kernel
theorem d_PG_readTree_99 : decode b_PG_readTree 99 = .ok (.iconst 0, 1) := by decide +kernel
theorem d_PG_readTree_100 : decode b_PG_readTree 100 = .ok (.ireturn, 1) := by decide +kernel
theorem d_PG_readTree_101 : decode b_PG_readTree 101 = .ok (.iinc 3 (-1), 3) := by decide +kernel
theorem d_PG_readTree_104 : decode b_PG_readTree 104 = .ok (.goto (-44), 3) := by decide +kernel
theorem d_PG_readTree_107 : decode b_PG_readTree 107 = .ok (.iconst 1, 1) := by decide +kernel
theorem d_PG_readTree_108 : decode b_PG_readTree 108 = .ok (.ireturn, 1) := by decide +kernel
theorem d_PG_change_0 : decode b_PG_change 0 = .ok (.iconst 0, 1) := by decide +kernel
theorem d_PG_change_1 : decode b_PG_change 1 = .ok (.istore_n 2, 1) := by decide +kernel
theorem d_PG_change_2 : decode b_PG_change 2 = .ok (.iload_n 2, 1) := by decide +kernel
theorem d_PG_change_3 : decode b_PG_change 3 = .ok (.sipush 512, 3) := by decide +kernel
theorem d_PG_change_6 : decode b_PG_change 6 = .ok (.if_icmp .ge 80, 3) := by decide +kernel
theorem d_PG_change_9 : decode b_PG_change 9 = .ok (.aload_n 1, 1) := by decide +kernel
theorem d_PG_change_10 : decode b_PG_change 10 = .ok (.iload_n 2, 1) := by decide +kernel
theorem d_PG_change_11 : decode b_PG_change 11 = .ok (.invokevirtual 32, 3) := by decide +kernel
theorem d_PG_change_14 : decode b_PG_change 14 = .ok (.ifCond .eq 66, 3) := by decide +kernel
theorem d_PG_change_17 : decode b_PG_change 17 = .ok (.iload_n 2, 1) := by decide +kernel
theorem d_PG_change_18 : decode b_PG_change 18 = .ok (.iconst 3, 1) := by decide +kernel
theorem d_PG_change_19 : decode b_PG_change 19 = .ok (.ishr, 1) := by decide +kernel
theorem d_PG_change_20 : decode b_PG_change 20 = .ok (.istore_n 3, 1) := by decide +kernel
theorem d_PG_change_21 : decode b_PG_change 21 = .ok (.aload_n 0, 1) := by decide +kernel
theorem d_PG_change_22 : decode b_PG_change 22 = .ok (.iload_n 3, 1) := by decide +kernel
theorem d_PG_change_23 : decode b_PG_change 23 = .ok (.iload_n 2, 1) := by decide +kernel
theorem d_PG_change_24 : decode b_PG_change 24 = .ok (.bipush 7, 2) := by decide +kernel
theorem d_PG_change_26 : decode b_PG_change 26 = .ok (.iand, 1) := by decide +kernel
theorem d_PG_change_27 : decode b_PG_change 27 = .ok (.invokevirtual 65, 3) := by decide +kernel
theorem d_PG_change_30 : decode b_PG_change 30 = .ok (.istore 4, 2) := by decide +kernel
theorem d_PG_change_32 : decode b_PG_change 32 = .ok (.aload_n 0, 1) := by decide +kernel
theorem d_PG_change_33 : decode b_PG_change 33 = .ok (.iload_n 3, 1) := by decide +kernel
theorem d_PG_change_34 : decode b_PG_change 34 = .ok (.iload_n 2, 1) := by decide +kernel
theorem d_PG_change_35 : decode b_PG_change 35 = .ok (.bipush 7, 2) := by decide +kernel
theorem d_PG_change_37 : decode b_PG_change 37 = .ok (.iand, 1) := by decide +kernel
theorem d_PG_change_38 : decode b_PG_change 38 = .ok (.aload_n 1, 1) := by decide +kernel
theorem d_PG_change_39 : decode b_PG_change 39 = .ok (.iload_n 2, 1) := by decide +kernel
theorem d_PG_change_40 : decode b_PG_change 40 = .ok (.invokevirtual 68, 3) := by decide +kernel
theorem d_PG_change_43 : decode b_PG_change 43 = .ok (.ifCond .ne 7, 3) := by decide +kernel
theorem d_PG_change_46 : decode b_PG_change 46 = .ok (.iconst 1, 1) := by decide +kernel
theorem d_PG_change_47 : decode b_PG_change 47 = .ok (.goto 4, 3) := by decide +kernel
theorem d_PG_change_50 : decode b_PG_change 50 = .ok (.iconst 0, 1) := by decide +kernel
theorem d_PG_change_51 : decode b_PG_change 51 = .ok (.aload_n 1, 1) := by decide +kernel
theorem d_PG_change_52 : decode b_PG_change 52 = .ok (.iload_n 2, 1) := by decide +kernel
theorem d_PG_change_53 : decode b_PG_change 53 = .ok (.invokevirtual 71, 3) := by decide +kernel
theorem d_PG_change_56 : decode b_PG_change 56 = .ok (.invokevirtual 74, 3) := by decide +kernel
theorem d_PG_change_59 : decode b_PG_change 59 = .ok (.aload_n 0, 1) := by decide +kernel
theorem d_PG_change_60 : decode b_PG_change 60 = .ok (.dup, 1) := by decide +kernel
theorem d_PG_change_61 : decode b_PG_change 61 = .ok (.getfield 28, 3) := by decide +kernel
theorem d_PG_change_64 : decode b_PG_change 64 = .ok (.aload_n 0, 1) := by decide +kernel
theorem d_PG_change_65 : decode b_PG_change 65 = .ok (.iload_n 3, 1) := by decide +kernel
theorem d_PG_change_66 : decode b_PG_change 66 = .ok (.iload_n 2, 1) := by decide +kernel
theorem d_PG_change_67 : decode b_PG_change 67 = .ok (.bipush 7, 2) := by decide +kernel
theorem d_PG_change_69 : decode b_PG_change 69 = .ok (.iand, 1) := by decide +kernel
theorem d_PG_change_70 : decode b_PG_change 70 = .ok (.invokevirtual 65, 3) := by decide +kernel
theorem d_PG_change_73 : decode b_PG_change 73 = .ok (.iload 4, 2) := by decide +kernel
theorem d_PG_change_75 : decode b_PG_change 75 = .ok (.isub, 1) := by decide +kernel
theorem d_PG_change_76 : decode b_PG_change 76 = .ok (.iadd, 1) := by decide +kernel
theorem d_PG_change_77 : decode b_PG_change 77 = .ok (.putfield 28, 3) := by decide +kernel
theorem d_PG_change_80 : decode b_PG_change 80 = .ok (.iinc 2 1, 3) := by decide +kernel
theorem d_PG_change_83 : decode b_PG_change 83 = .ok (.goto (-81), 3) := by decide +kernel
theorem d_PG_change_86 : decode b_PG_change 86 = .ok (.return_, 1) := by decide +kernel
theorem d_PG_place_0 : decode b_PG_place 0 = .ok (.iload_n 1, 1) := by decide +kernel
theorem d_PG_place_1 : decode b_PG_place 1 = .ok (.istore_n 2, 1) := by decide +kernel
theorem d_PG_place_2 : decode b_PG_place 2 = .ok (.iconst 0, 1) := by decide +kernel
theorem d_PG_place_3 : decode b_PG_place 3 = .ok (.istore_n 3, 1) := by decide +kernel
theorem d_PG_place_4 : decode b_PG_place 4 = .ok (.iload_n 3, 1) := by decide +kernel
theorem d_PG_place_5 : decode b_PG_place 5 = .ok (.bipush 73, 2) := by decide +kernel
theorem d_PG_place_7 : decode b_PG_place 7 = .ok (.if_icmp .ge 89, 3) := by decide +kernel
theorem d_PG_place_10 : decode b_PG_place 10 = .ok (.aload_n 0, 1) := by decide +kernel
theorem d_PG_place_11 : decode b_PG_place 11 = .ok (.getfield 11, 3) := by decide +kernel
theorem d_PG_place_14 : decode b_PG_place 14 = .ok (.iload_n 3, 1) := by decide +kernel
theorem d_PG_place_15 : decode b_PG_place 15 = .ok (.baload, 1) := by decide +kernel
theorem d_PG_place_16 : decode b_PG_place 16 = .ok (.ifCond .eq 74, 3) := by decide +kernel
theorem d_PG_place_19 : decode b_PG_place 19 = .ok (.aload_n 0, 1) := by decide +kernel
theorem d_PG_place_20 : decode b_PG_place 20 = .ok (.getfield 15, 3) := by decide +kernel
theorem d_PG_place_23 : decode b_PG_place 23 = .ok (.iload_n 3, 1) := by decide +kernel
theorem d_PG_place_24 : decode b_PG_place 24 = .ok (.iaload, 1) := by decide +kernel
theorem d_PG_place_25 : decode b_PG_place 25 = .ok (.ifCond .eq 7, 3) := by decide +kernel
theorem d_PG_place_28 : decode b_PG_place 28 = .ok (.iconst 1, 1) := by decide +kernel
theorem d_PG_place_29 : decode b_PG_place 29 = .ok (.goto 4, 3) := by decide +kernel
theorem d_PG_place_32 : decode b_PG_place 32 = .ok (.iconst 0, 1) := by decide +kernel
theorem d_PG_place_33 : decode b_PG_place 33 = .ok (.istore 4, 2) := by decide +kernel
theorem d_PG_place_35 : decode b_PG_place 35 = .ok (.aload_n 0, 1) := by decide +kernel
theorem d_PG_place_36 : decode b_PG_place 36 = .ok (.getfield 22, 3) := by decide +kernel
theorem d_PG_place_39 : decode b_PG_place 39 = .ok (.iload_n 3, 1) := by decide +kernel
theorem d_PG_place_40 : decode b_PG_place 40 = .ok (.iload 4, 2) := by decide +kernel
theorem d_PG_place_42 : decode b_PG_place 42 = .ok (.ifCond .eq 7, 3) := by decide +kernel
theorem d_PG_place_45 : decode b_PG_place 45 = .ok (.iload_n 2, 1) := by decide +kernel
theorem d_PG_place_46 : decode b_PG_place 46 = .ok (.goto 4, 3) := by decide +kernel
theorem d_PG_place_49 : decode b_PG_place 49 = .ok (.iconst 0, 1) := by decide +kernel
theorem d_PG_place_50 : decode b_PG_place 50 = .ok (.iastore, 1) := by decide +kernel
theorem d_PG_place_51 : decode b_PG_place 51 = .ok (.iload_n 2, 1) := by decide +kernel
theorem d_PG_place_52 : decode b_PG_place 52 = .ok (.iload 4, 2) := by decide +kernel
theorem d_PG_place_54 : decode b_PG_place 54 = .ok (.ifCond .eq 7, 3) := by decide +kernel
theorem d_PG_place_57 : decode b_PG_place 57 = .ok (.iconst 1, 1) := by decide +kernel
theorem d_PG_place_58 : decode b_PG_place 58 = .ok (.goto 4, 3) := by decide +kernel
theorem d_PG_place_61 : decode b_PG_place 61 = .ok (.iconst 0, 1) := by decide +kernel
theorem d_PG_place_62 : decode b_PG_place 62 = .ok (.iadd, 1) := by decide +kernel
theorem d_PG_place_63 : decode b_PG_place 63 = .ok (.istore_n 2, 1) := by decide +kernel
theorem d_PG_place_64 : decode b_PG_place 64 = .ok (.iload_n 3, 1) := by decide +kernel
theorem d_PG_place_65 : decode b_PG_place 65 = .ok (.bipush 72, 2) := by decide +kernel
theorem d_PG_place_67 : decode b_PG_place 67 = .ok (.if_icmp .ge 23, 3) := by decide +kernel
theorem d_PG_place_70 : decode b_PG_place 70 = .ok (.aload_n 0, 1) := by decide +kernel
theorem d_PG_place_71 : decode b_PG_place 71 = .ok (.iload_n 3, 1) := by decide +kernel
theorem d_PG_place_72 : decode b_PG_place 72 = .ok (.invokestatic 38, 3) := by decide +kernel
theorem d_PG_place_75 : decode b_PG_place 75 = .ok (.iload_n 3, 1) := by decide +kernel
theorem d_PG_place_76 : decode b_PG_place 76 = .ok (.bipush 7, 2) := by decide +kernel
theorem d_PG_place_78 : decode b_PG_place 78 = .ok (.iand, 1) := by decide +kernel
theorem d_PG_place_79 : decode b_PG_place 79 = .ok (.iload 4, 2) := by decide +kernel
theorem d_PG_place_81 : decode b_PG_place 81 = .ok (.aload_n 0, 1) := by decide +kernel
theorem d_PG_place_82 : decode b_PG_place 82 = .ok (.getfield 22, 3) := by decide +kernel
theorem d_PG_place_85 : decode b_PG_place 85 = .ok (.iload_n 3, 1) := by decide +kernel
theorem d_PG_place_86 : decode b_PG_place 86 = .ok (.iaload, 1) := by decide +kernel
theorem d_PG_place_87 : decode b_PG_place 87 = .ok (.invokevirtual 74, 3) := by decide +kernel
theorem d_PG_place_90 : decode b_PG_place 90 = .ok (.iinc 3 1, 3) := by decide +kernel
theorem d_PG_place_93 : decode b_PG_place 93 = .ok (.goto (-89), 3) := by decide +kernel
theorem d_PG_place_96 : decode b_PG_place 96 = .ok (.iload_n 2, 1) := by decide +kernel
theorem d_PG_place_97 : decode b_PG_place 97 = .ok (.ireturn, 1) := by decide +kernel
theorem d_PG_writeTree_0 : decode b_PG_writeTree 0 = .ok (.iconst 0, 1) := by decide +kernel
theorem d_PG_writeTree_1 : decode b_PG_writeTree 1 = .ok (.istore_n 3, 1) := by decide +kernel
theorem d_PG_writeTree_2 : decode b_PG_writeTree 2 = .ok (.iload_n 3, 1) := by decide +kernel
theorem d_PG_writeTree_3 : decode b_PG_writeTree 3 = .ok (.bipush 73, 2) := by decide +kernel
theorem d_PG_writeTree_5 : decode b_PG_writeTree 5 = .ok (.if_icmp .ge 61, 3) := by decide +kernel
theorem d_PG_writeTree_8 : decode b_PG_writeTree 8 = .ok (.aload_n 0, 1) := by decide +kernel
theorem d_PG_writeTree_9 : decode b_PG_writeTree 9 = .ok (.getfield 11, 3) := by decide +kernel
theorem d_PG_writeTree_12 : decode b_PG_writeTree 12 = .ok (.iload_n 3, 1) := by decide +kernel
theorem d_PG_writeTree_13 : decode b_PG_writeTree 13 = .ok (.baload, 1) := by decide +kernel
theorem d_PG_writeTree_14 : decode b_PG_writeTree 14 = .ok (.ifCond .eq 46, 3) := by decide +kernel
theorem d_PG_writeTree_17 : decode b_PG_writeTree 17 = .ok (.aload_n 0, 1) := by decide +kernel
theorem d_PG_writeTree_18 : decode b_PG_writeTree 18 = .ok (.getfield 15, 3) := by decide +kernel
theorem d_PG_writeTree_21 : decode b_PG_writeTree 21 = .ok (.iload_n 3, 1) := by decide +kernel
theorem d_PG_writeTree_22 : decode b_PG_writeTree 22 = .ok (.iaload, 1) := by decide +kernel
theorem d_PG_writeTree_23 : decode b_PG_writeTree 23 = .ok (.ifCond .eq 37, 3) := by decide +kernel
theorem d_PG_writeTree_26 : decode b_PG_writeTree 26 = .ok (.aload_n 1, 1) := by decide +kernel
theorem d_PG_writeTree_27 : decode b_PG_writeTree 27 = .ok (.aload_n 0, 1) := by decide +kernel
theorem d_PG_writeTree_28 : decode b_PG_writeTree 28 = .ok (.getfield 22, 3) := by decide +kernel
theorem d_PG_writeTree_31 : decode b_PG_writeTree 31 = .ok (.iload_n 3, 1) := by decide +kernel
theorem d_PG_writeTree_32 : decode b_PG_writeTree 32 = .ok (.iaload, 1) := by decide +kernel
theorem d_PG_writeTree_33 : decode b_PG_writeTree 33 = .ok (.iload_n 3, 1) := by decide +kernel
theorem d_PG_writeTree_34 : decode b_PG_writeTree 34 = .ok (.invokestatic 78, 3) := by decide +kernel
theorem d_PG_writeTree_37 : decode b_PG_writeTree 37 = .ok (.aload_n 0, 1) := by decide +kernel
theorem d_PG_writeTree_38 : decode b_PG_writeTree 38 = .ok (.getfield 15, 3) := by decide +kernel
theorem d_PG_writeTree_41 : decode b_PG_writeTree 41 = .ok (.iload_n 3, 1) := by decide +kernel
theorem d_PG_writeTree_42 : decode b_PG_writeTree 42 = .ok (.iaload, 1) := by decide +kernel
theorem d_PG_writeTree_43 : decode b_PG_writeTree 43 = .ok (.iload_n 2, 1) := by decide +kernel
theorem d_PG_writeTree_44 : decode b_PG_writeTree 44 = .ok (.aload_n 0, 1) := by decide +kernel
theorem d_PG_writeTree_45 : decode b_PG_writeTree 45 = .ok (.getfield 19, 3) := by decide +kernel
theorem d_PG_writeTree_48 : decode b_PG_writeTree 48 = .ok (.iload_n 3, 1) := by decide +kernel
theorem d_PG_writeTree_49 : decode b_PG_writeTree 49 = .ok (.bipush 8, 2) := by decide +kernel
theorem d_PG_writeTree_51 : decode b_PG_writeTree 51 = .ok (.imul, 1) := by decide +kernel
theorem d_PG_writeTree_52 : decode b_PG_writeTree 52 = .ok (.invokevirtual 81, 3) := by decide +kernel
theorem d_PG_writeTree_55 : decode b_PG_writeTree 55 = .ok (.ifCond .ne 5, 3) := by decide +kernel
theorem d_PG_writeTree_58 : decode b_PG_writeTree 58 = .ok (.iconst 0, 1) := by decide +kernel
theorem d_PG_writeTree_59 : decode b_PG_writeTree 59 = .ok (.ireturn, 1) := by decide +kernel
theorem d_PG_writeTree_60 : decode b_PG_writeTree 60 = .ok (.iinc 3 1, 3) := by decide +kernel
theorem d_PG_writeTree_63 : decode b_PG_writeTree 63 = .ok (.goto (-61), 3) := by decide +kernel
theorem d_PG_writeTree_66 : decode b_PG_writeTree 66 = .ok (.iconst 1, 1) := by decide +kernel
theorem d_PG_writeTree_67 : decode b_PG_writeTree 67 = .ok (.ireturn, 1) := by decide +kernel
theorem d_PG_writeRoot_0 : decode b_PG_writeRoot 0 = .ok (.aload_n 0, 1) := by decide +kernel
theorem d_PG_writeRoot_1 : decode b_PG_writeRoot 1 = .ok (.getfield 25, 3) := by decide +kernel
theorem d_PG_writeRoot_4 : decode b_PG_writeRoot 4 = .ok (.iconst 0, 1) := by decide +kernel
theorem d_PG_writeRoot_5 : decode b_PG_writeRoot 5 = .ok (.aload_n 0, 1) := by decide +kernel
theorem d_PG_writeRoot_6 : decode b_PG_writeRoot 6 = .ok (.getfield 22, 3) := by decide +kernel
theorem d_PG_writeRoot_9 : decode b_PG_writeRoot 9 = .ok (.bipush 72, 2) := by decide +kernel
theorem d_PG_writeRoot_11 : decode b_PG_writeRoot 11 = .ok (.iaload, 1) := by decide +kernel
theorem d_PG_writeRoot_12 : decode b_PG_writeRoot 12 = .ok (.iastore, 1) := by decide +kernel
theorem d_PG_writeRoot_13 : decode b_PG_writeRoot 13 = .ok (.aload_n 0, 1) := by decide +kernel
theorem d_PG_writeRoot_14 : decode b_PG_writeRoot 14 = .ok (.getfield 25, 3) := by decide +kernel
theorem d_PG_writeRoot_17 : decode b_PG_writeRoot 17 = .ok (.iconst 1, 1) := by decide +kernel
theorem d_PG_writeRoot_18 : decode b_PG_writeRoot 18 = .ok (.aload_n 0, 1) := by decide +kernel
theorem d_PG_writeRoot_19 : decode b_PG_writeRoot 19 = .ok (.getfield 28, 3) := by decide +kernel
theorem d_PG_writeRoot_22 : decode b_PG_writeRoot 22 = .ok (.iastore, 1) := by decide +kernel
theorem d_PG_writeRoot_23 : decode b_PG_writeRoot 23 = .ok (.aload_n 0, 1) := by decide +kernel
theorem d_PG_writeRoot_24 : decode b_PG_writeRoot 24 = .ok (.getfield 25, 3) := by decide +kernel
theorem d_PG_writeRoot_27 : decode b_PG_writeRoot 27 = .ok (.iconst 2, 1) := by decide +kernel
theorem d_PG_writeRoot_28 : decode b_PG_writeRoot 28 = .ok (.iload 4, 2) := by decide +kernel
theorem d_PG_writeRoot_30 : decode b_PG_writeRoot 30 = .ok (.iastore, 1) := by decide +kernel
theorem d_PG_writeRoot_31 : decode b_PG_writeRoot 31 = .ok (.aload_n 1, 1) := by decide +kernel
theorem d_PG_writeRoot_32 : decode b_PG_writeRoot 32 = .ok (.iload_n 3, 1) := by decide +kernel
theorem d_PG_writeRoot_33 : decode b_PG_writeRoot 33 = .ok (.iconst 4, 1) := by decide +kernel
theorem d_PG_writeRoot_34 : decode b_PG_writeRoot 34 = .ok (.aload_n 0, 1) := by decide +kernel
theorem d_PG_writeRoot_35 : decode b_PG_writeRoot 35 = .ok (.getfield 15, 3) := by decide +kernel
theorem d_PG_writeRoot_38 : decode b_PG_writeRoot 38 = .ok (.bipush 72, 2) := by decide +kernel
theorem d_PG_writeRoot_40 : decode b_PG_writeRoot 40 = .ok (.iaload, 1) := by decide +kernel
theorem d_PG_writeRoot_41 : decode b_PG_writeRoot 41 = .ok (.ifCond .ne 7, 3) := by decide +kernel
theorem d_PG_writeRoot_44 : decode b_PG_writeRoot 44 = .ok (.iconst 0, 1) := by decide +kernel
theorem d_PG_writeRoot_45 : decode b_PG_writeRoot 45 = .ok (.goto 4, 3) := by decide +kernel
theorem d_PG_writeRoot_48 : decode b_PG_writeRoot 48 = .ok (.iconst 1, 1) := by decide +kernel
theorem d_PG_writeRoot_49 : decode b_PG_writeRoot 49 = .ok (.iload_n 2, 1) := by decide +kernel
theorem d_PG_writeRoot_50 : decode b_PG_writeRoot 50 = .ok (.aload_n 0, 1) := by decide +kernel
theorem d_PG_writeRoot_51 : decode b_PG_writeRoot 51 = .ok (.getfield 25, 3) := by decide +kernel
theorem d_PG_writeRoot_54 : decode b_PG_writeRoot 54 = .ok (.iconst 0, 1) := by decide +kernel
theorem d_PG_writeRoot_55 : decode b_PG_writeRoot 55 = .ok (.invokevirtual 81, 3) := by decide +kernel
theorem d_PG_writeRoot_58 : decode b_PG_writeRoot 58 = .ok (.ireturn, 1) := by decide +kernel
theorem d_PG_readPage_0 : decode b_PG_readPage 0 = .ok (.aload_n 1, 1) := by decide +kernel
theorem d_PG_readPage_1 : decode b_PG_readPage 1 = .ok (.iload_n 3, 1) := by decide +kernel
theorem d_PG_readPage_2 : decode b_PG_readPage 2 = .ok (.iload_n 2, 1) := by decide +kernel
theorem d_PG_readPage_3 : decode b_PG_readPage 3 = .ok (.invokestatic 78, 3) := by decide +kernel
theorem d_PG_readPage_6 : decode b_PG_readPage 6 = .ok (.invokevirtual 42, 3) := by decide +kernel
theorem d_PG_readPage_9 : decode b_PG_readPage 9 = .ok (.ifCond .eq 5, 3) := by decide +kernel
theorem d_PG_readPage_12 : decode b_PG_readPage 12 = .ok (.iconst 0, 1) := by decide +kernel
theorem d_PG_readPage_13 : decode b_PG_readPage 13 = .ok (.ireturn, 1) := by decide +kernel
theorem d_PG_readPage_14 : decode b_PG_readPage 14 = .ok (.iconst 0, 1) := by decide +kernel
theorem d_PG_readPage_15 : decode b_PG_readPage 15 = .ok (.istore 4, 2) := by decide +kernel
theorem d_PG_readPage_17 : decode b_PG_readPage 17 = .ok (.iload 4, 2) := by decide +kernel
theorem d_PG_readPage_19 : decode b_PG_readPage 19 = .ok (.bipush 8, 2) := by decide +kernel
theorem d_PG_readPage_21 : decode b_PG_readPage 21 = .ok (.if_icmp .ge 30, 3) := by decide +kernel
theorem d_PG_readPage_24 : decode b_PG_readPage 24 = .ok (.aload_n 0, 1) := by decide +kernel
theorem d_PG_readPage_25 : decode b_PG_readPage 25 = .ok (.iload_n 2, 1) := by decide +kernel
theorem d_PG_readPage_26 : decode b_PG_readPage 26 = .ok (.iload 4, 2) := by decide +kernel
theorem d_PG_readPage_28 : decode b_PG_readPage 28 = .ok (.aload_n 1, 1) := by decide +kernel
theorem d_PG_readPage_29 : decode b_PG_readPage 29 = .ok (.iload_n 3, 1) := by decide +kernel
theorem d_PG_readPage_30 : decode b_PG_readPage 30 = .ok (.iload 4, 2) := by decide +kernel
theorem d_PG_readPage_32 : decode b_PG_readPage 32 = .ok (.invokevirtual 52, 3) := by decide +kernel
theorem d_PG_readPage_35 : decode b_PG_readPage 35 = .ok (.aload_n 1, 1) := by decide +kernel
theorem d_PG_readPage_36 : decode b_PG_readPage 36 = .ok (.iload_n 3, 1) := by decide +kernel
theorem d_PG_readPage_37 : decode b_PG_readPage 37 = .ok (.iload 4, 2) := by decide +kernel
theorem d_PG_readPage_39 : decode b_PG_readPage 39 = .ok (.invokevirtual 48, 3) := by decide +kernel
theorem d_PG_readPage_42 : decode b_PG_readPage 42 = .ok (.invokevirtual 74, 3) := by decide +kernel
theorem d_PG_readPage_45 : decode b_PG_readPage 45 = .ok (.iinc 4 1, 3) := by decide +kernel
theorem d_PG_readPage_48 : decode b_PG_readPage 48 = .ok (.goto (-31), 3) := by decide +kernel
theorem d_PG_readPage_51 : decode b_PG_readPage 51 = .ok (.iconst 1, 1) := by decide +kernel
theorem d_PG_readPage_52 : decode b_PG_readPage 52 = .ok (.ireturn, 1) := by decide +kernel
theorem d_PG_setEntry_0 : decode b_PG_setEntry 0 = .ok (.iconst 1, 1) := by decide +kernel
theorem d_PG_setEntry_1 : decode b_PG_setEntry 1 = .ok (.iload_n 2, 1) := by decide +kernel
theorem d_PG_setEntry_2 : decode b_PG_setEntry 2 = .ok (.ishl, 1) := by decide +kernel
theorem d_PG_setEntry_3 : decode b_PG_setEntry 3 = .ok (.istore 5, 2) := by decide +kernel
theorem d_PG_setEntry_5 : decode b_PG_setEntry 5 = .ok (.aload_n 0, 1) := by decide +kernel
theorem d_PG_setEntry_6 : decode b_PG_setEntry 6 = .ok (.getfield 15, 3) := by decide +kernel
theorem d_PG_setEntry_9 : decode b_PG_setEntry 9 = .ok (.iload_n 1, 1) := by decide +kernel
theorem d_PG_setEntry_10 : decode b_PG_setEntry 10 = .ok (.iload_n 3, 1) := by decide +kernel
theorem d_PG_setEntry_11 : decode b_PG_setEntry 11 = .ok (.ifCond .eq 15, 3) := by decide +kernel
theorem d_PG_setEntry_14 : decode b_PG_setEntry 14 = .ok (.aload_n 0, 1) := by decide +kernel
theorem d_PG_setEntry_15 : decode b_PG_setEntry 15 = .ok (.getfield 15, 3) := by decide +kernel
theorem d_PG_setEntry_18 : decode b_PG_setEntry 18 = .ok (.iload_n 1, 1) := by decide +kernel
theorem d_PG_setEntry_19 : decode b_PG_setEntry 19 = .ok (.iaload, 1) := by decide +kernel
theorem d_PG_setEntry_20 : decode b_PG_setEntry 20 = .ok (.iload 5, 2) := by decide +kernel
theorem d_PG_setEntry_22 : decode b_PG_setEntry 22 = .ok (.ior, 1) := by decide +kernel
theorem d_PG_setEntry_23 : decode b_PG_setEntry 23 = .ok (.goto 14, 3) := by decide +kernel
theorem d_PG_setEntry_26 : decode b_PG_setEntry 26 = .ok (.aload_n 0, 1) := by decide +kernel
theorem d_PG_setEntry_27 : decode b_PG_setEntry 27 = .ok (.getfield 15, 3) := by decide +kernel
theorem d_PG_setEntry_30 : decode b_PG_setEntry 30 = .ok (.iload_n 1, 1) := by decide +kernel
theorem d_PG_setEntry_31 : decode b_PG_setEntry 31 = .ok (.iaload, 1) := by decide +kernel
theorem d_PG_setEntry_32 : decode b_PG_setEntry 32 = .ok (.iload 5, 2) := by decide +kernel
theorem d_PG_setEntry_34 : decode b_PG_setEntry 34 = .ok (.iconst (-1), 1) := by decide +kernel
theorem d_PG_setEntry_35 : decode b_PG_setEntry 35 = .ok (.ixor, 1) := by decide +kernel
theorem d_PG_setEntry_36 : decode b_PG_setEntry 36 = .ok (.iand, 1) := by decide +kernel
theorem d_PG_setEntry_37 : decode b_PG_setEntry 37 = .ok (.iastore, 1) := by decide +kernel
theorem d_PG_setEntry_38 : decode b_PG_setEntry 38 = .ok (.aload_n 0, 1) := by decide +kernel
theorem d_PG_setEntry_39 : decode b_PG_setEntry 39 = .ok (.getfield 19, 3) := by decide +kernel
theorem d_PG_setEntry_42 : decode b_PG_setEntry 42 = .ok (.iload_n 1, 1) := by decide +kernel
theorem d_PG_setEntry_43 : decode b_PG_setEntry 43 = .ok (.bipush 8, 2) := by decide +kernel
theorem d_PG_setEntry_45 : decode b_PG_setEntry 45 = .ok (.imul, 1) := by decide +kernel
theorem d_PG_setEntry_46 : decode b_PG_setEntry 46 = .ok (.iload_n 2, 1) := by decide +kernel
theorem d_PG_setEntry_47 : decode b_PG_setEntry 47 = .ok (.iadd, 1) := by decide +kernel
theorem d_PG_setEntry_48 : decode b_PG_setEntry 48 = .ok (.iload_n 3, 1) := by decide +kernel
theorem d_PG_setEntry_49 : decode b_PG_setEntry 49 = .ok (.ifCond .eq 8, 3) := by decide +kernel
theorem d_PG_setEntry_52 : decode b_PG_setEntry 52 = .ok (.iload 4, 2) := by decide +kernel
theorem d_PG_setEntry_54 : decode b_PG_setEntry 54 = .ok (.goto 4, 3) := by decide +kernel
theorem d_PG_setEntry_57 : decode b_PG_setEntry 57 = .ok (.iconst 0, 1) := by decide +kernel
theorem d_PG_setEntry_58 : decode b_PG_setEntry 58 = .ok (.iastore, 1) := by decide +kernel
theorem d_PG_setEntry_59 : decode b_PG_setEntry 59 = .ok (.return_, 1) := by decide +kernel
theorem d_PG_bitOf_0 : decode b_PG_bitOf 0 = .ok (.aload_n 0, 1) := by decide +kernel
theorem d_PG_bitOf_1 : decode b_PG_bitOf 1 = .ok (.getfield 15, 3) := by decide +kernel
theorem d_PG_bitOf_4 : decode b_PG_bitOf 4 = .ok (.iload_n 1, 1) := by decide +kernel
theorem d_PG_bitOf_5 : decode b_PG_bitOf 5 = .ok (.iaload, 1) := by decide +kernel
theorem d_PG_bitOf_6 : decode b_PG_bitOf 6 = .ok (.iload_n 2, 1) := by decide +kernel
theorem d_PG_bitOf_7 : decode b_PG_bitOf 7 = .ok (.ishr, 1) := by decide +kernel
theorem d_PG_bitOf_8 : decode b_PG_bitOf 8 = .ok (.iconst 1, 1) := by decide +kernel
theorem d_PG_bitOf_9 : decode b_PG_bitOf 9 = .ok (.iand, 1) := by decide +kernel
theorem d_PG_bitOf_10 : decode b_PG_bitOf 10 = .ok (.ireturn, 1) := by decide +kernel
theorem d_PG_isInParent_0 : decode b_PG_isInParent 0 = .ok (.aload_n 0, 1) := by decide +kernel
theorem d_PG_isInParent_1 : decode b_PG_isInParent 1 = .ok (.iload_n 1, 1) := by decide +kernel
theorem d_PG_isInParent_2 : decode b_PG_isInParent 2 = .ok (.invokestatic 38, 3) := by decide +kernel
theorem d_PG_isInParent_5 : decode b_PG_isInParent 5 = .ok (.iload_n 1, 1) := by decide +kernel
theorem d_PG_isInParent_6 : decode b_PG_isInParent 6 = .ok (.bipush 7, 2) := by decide +kernel
theorem d_PG_isInParent_8 : decode b_PG_isInParent 8 = .ok (.iand, 1) := by decide +kernel
theorem d_PG_isInParent_9 : decode b_PG_isInParent 9 = .ok (.invokevirtual 65, 3) := by decide +kernel
theorem d_PG_isInParent_12 : decode b_PG_isInParent 12 = .ok (.iconst 1, 1) := by decide +kernel
theorem d_PG_isInParent_13 : decode b_PG_isInParent 13 = .ok (.if_icmp .ne 7, 3) := by decide +kernel
theorem d_PG_isInParent_16 : decode b_PG_isInParent 16 = .ok (.iconst 1, 1) := by decide +kernel
theorem d_PG_isInParent_17 : decode b_PG_isInParent 17 = .ok (.goto 4, 3) := by decide +kernel
theorem d_PG_isInParent_20 : decode b_PG_isInParent 20 = .ok (.iconst 0, 1) := by decide +kernel
theorem d_PG_isInParent_21 : decode b_PG_isInParent 21 = .ok (.ireturn, 1) := by decide +kernel
theorem d_PG_parentOf_0 : decode b_PG_parentOf 0 = .ok (.bipush 64, 2) := by decide +kernel
theorem d_PG_parentOf_2 : decode b_PG_parentOf 2 = .ok (.iload_n 0, 1) := by decide +kernel
theorem d_PG_parentOf_3 : decode b_PG_parentOf 3 = .ok (.iconst 3, 1) := by decide +kernel
theorem d_PG_parentOf_4 : decode b_PG_parentOf 4 = .ok (.ishr, 1) := by decide +kernel
theorem d_PG_parentOf_5 : decode b_PG_parentOf 5 = .ok (.iadd, 1) := by decide +kernel
theorem d_PG_parentOf_6 : decode b_PG_parentOf 6 = .ok (.ireturn, 1) := by decide +kernel
theorem d_PG_placeInParent_0 : decode b_PG_placeInParent 0 = .ok (.iload_n 0, 1) := by decide +kernel
theorem d_PG_placeInParent_1 : decode b_PG_placeInParent 1 = .ok (.invokestatic 38, 3) := by decide +kernel
theorem d_PG_placeInParent_4 : decode b_PG_placeInParent 4 = .ok (.bipush 8, 2) := by decide +kernel
theorem d_PG_placeInParent_6 : decode b_PG_placeInParent 6 = .ok (.imul, 1) := by decide +kernel
theorem d_PG_placeInParent_7 : decode b_PG_placeInParent 7 = .ok (.iload_n 0, 1) := by decide +kernel
theorem d_PG_placeInParent_8 : decode b_PG_placeInParent 8 = .ok (.bipush 7, 2) := by decide +kernel
theorem d_PG_placeInParent_10 : decode b_PG_placeInParent 10 = .ok (.iand, 1) := by decide +kernel
theorem d_PG_placeInParent_11 : decode b_PG_placeInParent 11 = .ok (.iadd, 1) := by decide +kernel
theorem d_PG_placeInParent_12 : decode b_PG_placeInParent 12 = .ok (.ireturn, 1) := by decide +kernel
theorem d_PG_kindOf_0 : decode b_PG_kindOf 0 = .ok (.iload_n 0, 1) := by decide +kernel
theorem d_PG_kindOf_1 : decode b_PG_kindOf 1 = .ok (.bipush 72, 2) := by decide +kernel
theorem d_PG_kindOf_3 : decode b_PG_kindOf 3 = .ok (.if_icmp .ne 5, 3) := by decide +kernel
theorem d_PG_kindOf_6 : decode b_PG_kindOf 6 = .ok (.iconst 3, 1) := by decide +kernel
theorem d_PG_kindOf_7 : decode b_PG_kindOf 7 = .ok (.ireturn, 1) := by decide +kernel
theorem d_PG_kindOf_8 : decode b_PG_kindOf 8 = .ok (.iload_n 0, 1) := by decide +kernel
theorem d_PG_kindOf_9 : decode b_PG_kindOf 9 = .ok (.bipush 64, 2) := by decide +kernel
theorem d_PG_kindOf_11 : decode b_PG_kindOf 11 = .ok (.if_icmp .ge 7, 3) := by decide +kernel
theorem d_PG_kindOf_14 : decode b_PG_kindOf 14 = .ok (.iconst 1, 1) := by decide +kernel
theorem d_PG_kindOf_15 : decode b_PG_kindOf 15 = .ok (.goto 4, 3) := by decide +kernel
theorem d_PG_kindOf_18 : decode b_PG_kindOf 18 = .ok (.iconst 2, 1) := by decide +kernel
theorem d_PG_kindOf_19 : decode b_PG_kindOf 19 = .ok (.ireturn, 1) := by decide +kernel
theorem d_PW_init_0 : decode b_PW_init 0 = .ok (.aload_n 0, 1) := by decide +kernel
theorem d_PW_init_1 : decode b_PW_init 1 = .ok (.invokespecial 3, 3) := by decide +kernel
theorem d_PW_init_4 : decode b_PW_init 4 = .ok (.aload_n 0, 1) := by decide +kernel
theorem d_PW_init_5 : decode b_PW_init 5 = .ok (.iconst (-1), 1) := by decide +kernel
theorem d_PW_init_6 : decode b_PW_init 6 = .ok (.putfield 9, 3) := by decide +kernel
theorem d_PW_init_9 : decode b_PW_init 9 = .ok (.return_, 1) := by decide +kernel
theorem d_PW_hasFailed_0 : decode b_PW_hasFailed 0 = .ok (.aload_n 0, 1) := by decide +kernel
theorem d_PW_hasFailed_1 : decode b_PW_hasFailed 1 = .ok (.getfield 15, 3) := by decide +kernel
theorem d_PW_hasFailed_4 : decode b_PW_hasFailed 4 = .ok (.ireturn, 1) := by decide +kernel
theorem d_PW_written_0 : decode b_PW_written 0 = .ok (.aload_n 0, 1) := by decide +kernel
theorem d_PW_written_1 : decode b_PW_written 1 = .ok (.getfield 19, 3) := by decide +kernel
theorem d_PW_written_4 : decode b_PW_written 4 = .ok (.ireturn, 1) := by decide +kernel
theorem d_PW_failAfter_0 : decode b_PW_failAfter 0 = .ok (.aload_n 0, 1) := by decide +kernel
theorem d_PW_failAfter_1 : decode b_PW_failAfter 1 = .ok (.iload_n 1, 1) := by decide +kernel
theorem d_PW_failAfter_2 : decode b_PW_failAfter 2 = .ok (.putfield 9, 3) := by decide +kernel
theorem d_PW_failAfter_5 : decode b_PW_failAfter 5 = .ok (.aload_n 0, 1) := by decide +kernel
theorem d_PW_failAfter_6 : decode b_PW_failAfter 6 = .ok (.iload_n 1, 1) := by decide +kernel
theorem d_PW_failAfter_7 : decode b_PW_failAfter 7 = .ok (.ifCond .ne 7, 3) := by decide +kernel
theorem d_PW_failAfter_10 : decode b_PW_failAfter 10 = .ok (.iconst 1, 1) := by decide +kernel
theorem d_PW_failAfter_11 : decode b_PW_failAfter 11 = .ok (.goto 4, 3) := by decide +kernel
theorem d_PW_failAfter_14 : decode b_PW_failAfter 14 = .ok (.iconst 0, 1) := by decide +kernel
theorem d_PW_failAfter_15 : decode b_PW_failAfter 15 = .ok (.putfield 15, 3) := by decide +kernel
theorem d_PW_failAfter_18 : decode b_PW_failAfter 18 = .ok (.return_, 1) := by decide +kernel
theorem d_PW_restore_0 : decode b_PW_restore 0 = .ok (.aload_n 0, 1) := by decide +kernel
theorem d_PW_restore_1 : decode b_PW_restore 1 = .ok (.iconst (-1), 1) := by decide +kernel
theorem d_PW_restore_2 : decode b_PW_restore 2 = .ok (.putfield 9, 3) := by decide +kernel
theorem d_PW_restore_5 : decode b_PW_restore 5 = .ok (.aload_n 0, 1) := by decide +kernel
theorem d_PW_restore_6 : decode b_PW_restore 6 = .ok (.iconst 0, 1) := by decide +kernel
theorem d_PW_restore_7 : decode b_PW_restore 7 = .ok (.putfield 15, 3) := by decide +kernel
theorem d_PW_restore_10 : decode b_PW_restore 10 = .ok (.return_, 1) := by decide +kernel
theorem d_PW_spend_0 : decode b_PW_spend 0 = .ok (.aload_n 0, 1) := by decide +kernel
theorem d_PW_spend_1 : decode b_PW_spend 1 = .ok (.getfield 9, 3) := by decide +kernel
theorem d_PW_spend_4 : decode b_PW_spend 4 = .ok (.iconst (-1), 1) := by decide +kernel
theorem d_PW_spend_5 : decode b_PW_spend 5 = .ok (.if_icmp .ne 7, 3) := by decide +kernel
theorem d_PW_spend_8 : decode b_PW_spend 8 = .ok (.iload_n 1, 1) := by decide +kernel
theorem d_PW_spend_9 : decode b_PW_spend 9 = .ok (.goto 11, 3) := by decide +kernel
theorem d_PW_spend_12 : decode b_PW_spend 12 = .ok (.aload_n 0, 1) := by decide +kernel
theorem d_PW_spend_13 : decode b_PW_spend 13 = .ok (.getfield 9, 3) := by decide +kernel
theorem d_PW_spend_16 : decode b_PW_spend 16 = .ok (.iload_n 1, 1) := by decide +kernel
theorem d_PW_spend_17 : decode b_PW_spend 17 = .ok (.invokestatic 22, 3) := by decide +kernel
theorem d_PW_spend_20 : decode b_PW_spend 20 = .ok (.istore_n 2, 1) := by decide +kernel
theorem d_PW_spend_21 : decode b_PW_spend 21 = .ok (.aload_n 0, 1) := by decide +kernel
theorem d_PW_spend_22 : decode b_PW_spend 22 = .ok (.dup, 1) := by decide +kernel
theorem d_PW_spend_23 : decode b_PW_spend 23 = .ok (.getfield 19, 3) := by decide +kernel
theorem d_PW_spend_26 : decode b_PW_spend 26 = .ok (.iload_n 2, 1) := by decide +kernel
theorem d_PW_spend_27 : decode b_PW_spend 27 = .ok (.iadd, 1) := by decide +kernel
theorem d_PW_spend_28 : decode b_PW_spend 28 = .ok (.putfield 19, 3) := by decide +kernel
theorem d_PW_spend_31 : decode b_PW_spend 31 = .ok (.aload_n 0, 1) := by decide +kernel
theorem d_PW_spend_32 : decode b_PW_spend 32 = .ok (.getfield 9, 3) := by decide +kernel
theorem d_PW_spend_35 : decode b_PW_spend 35 = .ok (.iconst (-1), 1) := by decide +kernel
theorem d_PW_spend_36 : decode b_PW_spend 36 = .ok (.if_icmp .eq 29, 3) := by decide +kernel
theorem d_PW_spend_39 : decode b_PW_spend 39 = .ok (.aload_n 0, 1) := by decide +kernel
theorem d_PW_spend_40 : decode b_PW_spend 40 = .ok (.dup, 1) := by decide +kernel
theorem d_PW_spend_41 : decode b_PW_spend 41 = .ok (.getfield 9, 3) := by decide +kernel
theorem d_PW_spend_44 : decode b_PW_spend 44 = .ok (.iload_n 2, 1) := by decide +kernel
theorem d_PW_spend_45 : decode b_PW_spend 45 = .ok (.isub, 1) := by decide +kernel
theorem d_PW_spend_46 : decode b_PW_spend 46 = .ok (.putfield 9, 3) := by decide +kernel
theorem d_PW_spend_49 : decode b_PW_spend 49 = .ok (.aload_n 0, 1) := by decide +kernel
theorem d_PW_spend_50 : decode b_PW_spend 50 = .ok (.aload_n 0, 1) := by decide +kernel
theorem d_PW_spend_51 : decode b_PW_spend 51 = .ok (.getfield 9, 3) := by decide +kernel
theorem d_PW_spend_54 : decode b_PW_spend 54 = .ok (.ifCond .ne 7, 3) := by decide +kernel
theorem d_PW_spend_57 : decode b_PW_spend 57 = .ok (.iconst 1, 1) := by decide +kernel
theorem d_PW_spend_58 : decode b_PW_spend 58 = .ok (.goto 4, 3) := by decide +kernel
theorem d_PW_spend_61 : decode b_PW_spend 61 = .ok (.iconst 0, 1) := by decide +kernel
theorem d_PW_spend_62 : decode b_PW_spend 62 = .ok (.putfield 15, 3) := by decide +kernel
theorem d_PW_spend_65 : decode b_PW_spend 65 = .ok (.iload_n 2, 1) := by decide +kernel
theorem d_PW_spend_66 : decode b_PW_spend 66 = .ok (.ireturn, 1) := by decide +kernel
theorem d_RL_init_0 : decode b_RL_init 0 = .ok (.aload_n 0, 1) := by decide +kernel
theorem d_RL_init_1 : decode b_RL_init 1 = .ok (.invokespecial 3, 3) := by decide +kernel
theorem d_RL_init_4 : decode b_RL_init 4 = .ok (.aload_n 0, 1) := by decide +kernel
theorem d_RL_init_5 : decode b_RL_init 5 = .ok (.bipush 64, 2) := by decide +kernel
theorem d_RL_init_7 : decode b_RL_init 7 = .ok (.newarray .byte, 2) := by decide +kernel
theorem d_RL_init_9 : decode b_RL_init 9 = .ok (.putfield 11, 3) := by decide +kernel
theorem d_RL_init_12 : decode b_RL_init 12 = .ok (.aload_n 0, 1) := by decide +kernel
theorem d_RL_init_13 : decode b_RL_init 13 = .ok (.aload_n 2, 1) := by decide +kernel
theorem d_RL_init_14 : decode b_RL_init 14 = .ok (.putfield 15, 3) := by decide +kernel
theorem d_RL_init_17 : decode b_RL_init 17 = .ok (.aload_n 0, 1) := by decide +kernel
theorem d_RL_init_18 : decode b_RL_init 18 = .ok (.bipush 16, 2) := by decide +kernel
theorem d_RL_init_20 : decode b_RL_init 20 = .ok (.sipush 200, 3) := by decide +kernel
theorem d_RL_init_23 : decode b_RL_init 23 = .ok (.iload_n 1, 1) := by decide +kernel
theorem d_RL_init_24 : decode b_RL_init 24 = .ok (.invokestatic 19, 3) := by decide +kernel
theorem d_RL_init_27 : decode b_RL_init 27 = .ok (.invokestatic 25, 3) := by decide +kernel
theorem d_RL_init_30 : decode b_RL_init 30 = .ok (.putfield 28, 3) := by decide +kernel
theorem d_RL_init_33 : decode b_RL_init 33 = .ok (.aload_n 0, 1) := by decide +kernel
theorem d_RL_init_34 : decode b_RL_init 34 = .ok (.aload_n 0, 1) := by decide +kernel
theorem d_RL_init_35 : decode b_RL_init 35 = .ok (.getfield 28, 3) := by decide +kernel
theorem d_RL_init_38 : decode b_RL_init 38 = .ok (.bipush 64, 2) := by decide +kernel
theorem d_RL_init_40 : decode b_RL_init 40 = .ok (.imul, 1) := by decide +kernel
theorem d_RL_init_41 : decode b_RL_init 41 = .ok (.newarray .byte, 2) := by decide +kernel
theorem d_RL_init_43 : decode b_RL_init 43 = .ok (.putfield 32, 3) := by decide +kernel
theorem d_RL_init_46 : decode b_RL_init 46 = .ok (.aload_n 0, 1) := by decide +kernel
theorem d_RL_init_47 : decode b_RL_init 47 = .ok (.aload_n 0, 1) := by decide +kernel
theorem d_RL_init_48 : decode b_RL_init 48 = .ok (.getfield 28, 3) := by decide +kernel
theorem d_RL_init_51 : decode b_RL_init 51 = .ok (.newarray .boolean, 2) := by decide +kernel
theorem d_RL_init_53 : decode b_RL_init 53 = .ok (.putfield 35, 3) := by decide +kernel
theorem d_RL_init_56 : decode b_RL_init 56 = .ok (.return_, 1) := by decide +kernel
theorem d_RL_slots_0 : decode b_RL_slots 0 = .ok (.aload_n 0, 1) := by decide +kernel
theorem d_RL_slots_1 : decode b_RL_slots 1 = .ok (.getfield 28, 3) := by decide +kernel
theorem d_RL_slots_4 : decode b_RL_slots 4 = .ok (.ireturn, 1) := by decide +kernel
theorem d_RL_start_0 : decode b_RL_start 0 = .ok (.aload_n 0, 1) := by decide +kernel
theorem d_RL_start_1 : decode b_RL_start 1 = .ok (.getfield 39, 3) := by decide +kernel
theorem d_RL_start_4 : decode b_RL_start 4 = .ok (.ireturn, 1) := by decide +kernel
theorem d_RL_end_0 : decode b_RL_end 0 = .ok (.aload_n 0, 1) := by decide +kernel
theorem d_RL_end_1 : decode b_RL_end 1 = .ok (.getfield 42, 3) := by decide +kernel
theorem d_RL_end_4 : decode b_RL_end 4 = .ok (.ireturn, 1) := by decide +kernel
theorem d_RL_use_0 : decode b_RL_use 0 = .ok (.aload_n 0, 1) := by decide +kernel
theorem d_RL_use_1 : decode b_RL_use 1 = .ok (.iload_n 1, 1) := by decide +kernel
theorem d_RL_use_2 : decode b_RL_use 2 = .ok (.putfield 39, 3) := by decide +kernel
theorem d_RL_use_5 : decode b_RL_use 5 = .ok (.aload_n 0, 1) := by decide +kernel
theorem d_RL_use_6 : decode b_RL_use 6 = .ok (.iload_n 2, 1) := by decide +kernel
theorem d_RL_use_7 : decode b_RL_use 7 = .ok (.putfield 42, 3) := by decide +kernel
theorem d_RL_use_10 : decode b_RL_use 10 = .ok (.return_, 1) := by decide +kernel
theorem d_RL_isUsed_0 : decode b_RL_isUsed 0 = .ok (.iload_n 1, 1) := by decide +kernel
theorem d_RL_isUsed_1 : decode b_RL_isUsed 1 = .ok (.aload_n 0, 1) := by decide +kernel
theorem d_RL_isUsed_2 : decode b_RL_isUsed 2 = .ok (.getfield 39, 3) := by decide +kernel
theorem d_RL_isUsed_5 : decode b_RL_isUsed 5 = .ok (.if_icmp .lt 15, 3) := by decide +kernel
theorem d_RL_isUsed_8 : decode b_RL_isUsed 8 = .ok (.iload_n 1, 1) := by decide +kernel
theorem d_RL_isUsed_9 : decode b_RL_isUsed 9 = .ok (.aload_n 0, 1) := by decide +kernel
theorem d_RL_isUsed_10 : decode b_RL_isUsed 10 = .ok (.getfield 42, 3) := by decide +kernel
theorem d_RL_isUsed_13 : decode b_RL_isUsed 13 = .ok (.if_icmp .ge 7, 3) := by decide +kernel
theorem d_RL_isUsed_16 : decode b_RL_isUsed 16 = .ok (.iconst 1, 1) := by decide +kernel
theorem d_RL_isUsed_17 : decode b_RL_isUsed 17 = .ok (.goto 4, 3) := by decide +kernel
theorem d_RL_isUsed_20 : decode b_RL_isUsed 20 = .ok (.iconst 0, 1) := by decide +kernel
theorem d_RL_isUsed_21 : decode b_RL_isUsed 21 = .ok (.ireturn, 1) := by decide +kernel
theorem d_RL_hasRoom_0 : decode b_RL_hasRoom 0 = .ok (.aload_n 0, 1) := by decide +kernel
theorem d_RL_hasRoom_1 : decode b_RL_hasRoom 1 = .ok (.getfield 42, 3) := by decide +kernel
theorem d_RL_hasRoom_4 : decode b_RL_hasRoom 4 = .ok (.aload_n 0, 1) := by decide +kernel
theorem d_RL_hasRoom_5 : decode b_RL_hasRoom 5 = .ok (.getfield 39, 3) := by decide +kernel
theorem d_RL_hasRoom_8 : decode b_RL_hasRoom 8 = .ok (.isub, 1) := by decide +kernel
theorem d_RL_hasRoom_9 : decode b_RL_hasRoom 9 = .ok (.iload_n 1, 1) := by decide +kernel
theorem d_RL_hasRoom_10 : decode b_RL_hasRoom 10 = .ok (.iadd, 1) := by decide +kernel
theorem d_RL_hasRoom_11 : decode b_RL_hasRoom 11 = .ok (.aload_n 0, 1) := by decide +kernel
theorem d_RL_hasRoom_12 : decode b_RL_hasRoom 12 = .ok (.getfield 28, 3) := by decide +kernel
theorem d_RL_hasRoom_15 : decode b_RL_hasRoom 15 = .ok (.if_icmp .gt 7, 3) := by decide +kernel
theorem d_RL_hasRoom_18 : decode b_RL_hasRoom 18 = .ok (.iconst 1, 1) := by decide +kernel
theorem d_RL_hasRoom_19 : decode b_RL_hasRoom 19 = .ok (.goto 4, 3) := by decide +kernel
theorem d_RL_hasRoom_22 : decode b_RL_hasRoom 22 = .ok (.iconst 0, 1) := by decide +kernel
theorem d_RL_hasRoom_23 : decode b_RL_hasRoom 23 = .ok (.ireturn, 1) := by decide +kernel
theorem d_RL_byteOf_0 : decode b_RL_byteOf 0 = .ok (.aload_n 0, 1) := by decide +kernel
theorem d_RL_byteOf_1 : decode b_RL_byteOf 1 = .ok (.getfield 32, 3) := by decide +kernel
theorem d_RL_byteOf_4 : decode b_RL_byteOf 4 = .ok (.aload_n 0, 1) := by decide +kernel
theorem d_RL_byteOf_5 : decode b_RL_byteOf 5 = .ok (.iload_n 1, 1) := by decide +kernel
theorem d_RL_byteOf_6 : decode b_RL_byteOf 6 = .ok (.invokevirtual 45, 3) := by decide +kernel
theorem d_RL_byteOf_9 : decode b_RL_byteOf 9 = .ok (.iload_n 2, 1) := by decide +kernel
theorem d_RL_byteOf_10 : decode b_RL_byteOf 10 = .ok (.iadd, 1) := by decide +kernel
theorem d_RL_byteOf_11 : decode b_RL_byteOf 11 = .ok (.baload, 1) := by decide +kernel
theorem d_RL_byteOf_12 : decode b_RL_byteOf 12 = .ok (.sipush 255, 3) := by decide +kernel
theorem d_RL_byteOf_15 : decode b_RL_byteOf 15 = .ok (.iand, 1) := by decide +kernel
theorem d_RL_byteOf_16 : decode b_RL_byteOf 16 = .ok (.ireturn, 1) := by decide +kernel
theorem d_RL_alter_0 : decode b_RL_alter 0 = .ok (.aload_n 0, 1) := by decide +kernel
theorem d_RL_alter_1 : decode b_RL_alter 1 = .ok (.iload_n 1, 1) := by decide +kernel
theorem d_RL_alter_2 : decode b_RL_alter 2 = .ok (.invokevirtual 45, 3) := by decide +kernel
theorem d_RL_alter_5 : decode b_RL_alter 5 = .ok (.iload_n 2, 1) := by decide +kernel
theorem d_RL_alter_6 : decode b_RL_alter 6 = .ok (.iadd, 1) := by decide +kernel
theorem d_RL_alter_7 : decode b_RL_alter 7 = .ok (.istore 4, 2) := by decide +kernel
theorem d_RL_alter_9 : decode b_RL_alter 9 = .ok (.aload_n 0, 1) := by decide +kernel
theorem d_RL_alter_10 : decode b_RL_alter 10 = .ok (.getfield 32, 3) := by decide +kernel
theorem d_RL_alter_13 : decode b_RL_alter 13 = .ok (.iload 4, 2) := by decide +kernel
theorem d_RL_alter_15 : decode b_RL_alter 15 = .ok (.aload_n 0, 1) := by decide +kernel
theorem d_RL_alter_16 : decode b_RL_alter 16 = .ok (.getfield 32, 3) := by decide +kernel
theorem d_RL_alter_19 : decode b_RL_alter 19 = .ok (.iload 4, 2) := by decide +kernel
theorem d_RL_alter_21 : decode b_RL_alter 21 = .ok (.baload, 1) := by decide +kernel
theorem d_RL_alter_22 : decode b_RL_alter 22 = .ok (.iload_n 3, 1) := by decide +kernel
theorem d_RL_alter_23 : decode b_RL_alter 23 = .ok (.ixor, 1) := by decide +kernel
theorem d_RL_alter_24 : decode b_RL_alter 24 = .ok (.i2b, 1) := by decide +kernel
theorem d_RL_alter_25 : decode b_RL_alter 25 = .ok (.bastore, 1) := by decide +kernel
theorem d_RL_alter_26 : decode b_RL_alter 26 = .ok (.return_, 1) := by decide +kernel
theorem d_RL_hasBit_0 : decode b_RL_hasBit 0 = .ok (.aload_n 0, 1) := by decide +kernel
theorem d_RL_hasBit_1 : decode b_RL_hasBit 1 = .ok (.iload_n 1, 1) := by decide +kernel
theorem d_RL_hasBit_2 : decode b_RL_hasBit 2 = .ok (.iconst 1, 1) := by decide +kernel
theorem d_RL_hasBit_3 : decode b_RL_hasBit 3 = .ok (.invokevirtual 49, 3) := by decide +kernel
theorem d_RL_hasBit_6 : decode b_RL_hasBit 6 = .ok (.iload_n 2, 1) := by decide +kernel
theorem d_RL_hasBit_7 : decode b_RL_hasBit 7 = .ok (.ishr, 1) := by decide +kernel
theorem d_RL_hasBit_8 : decode b_RL_hasBit 8 = .ok (.iconst 1, 1) := by decide +kernel
theorem d_RL_hasBit_9 : decode b_RL_hasBit 9 = .ok (.iand, 1) := by decide +kernel
theorem d_RL_hasBit_10 : decode b_RL_hasBit 10 = .ok (.iconst 1, 1) := by decide +kernel
theorem d_RL_hasBit_11 : decode b_RL_hasBit 11 = .ok (.if_icmp .ne 7, 3) := by decide +kernel
theorem d_RL_hasBit_14 : decode b_RL_hasBit 14 = .ok (.iconst 1, 1) := by decide +kernel
theorem d_RL_hasBit_15 : decode b_RL_hasBit 15 = .ok (.goto 4, 3) := by decide +kernel
theorem d_RL_hasBit_18 : decode b_RL_hasBit 18 = .ok (.iconst 0, 1) := by decide +kernel
theorem d_RL_hasBit_19 : decode b_RL_hasBit 19 = .ok (.ireturn, 1) := by decide +kernel
theorem d_RL_lowestBit_0 : decode b_RL_lowestBit 0 = .ok (.iload_n 2, 1) := by decide +kernel
theorem d_RL_lowestBit_1 : decode b_RL_lowestBit 1 = .ok (.istore_n 3, 1) := by decide +kernel
theorem d_RL_lowestBit_2 : decode b_RL_lowestBit 2 = .ok (.iload_n 3, 1) := by decide +kernel
theorem d_RL_lowestBit_3 : decode b_RL_lowestBit 3 = .ok (.bipush 8, 2) := by decide +kernel
theorem d_RL_lowestBit_5 : decode b_RL_lowestBit 5 = .ok (.if_icmp .ge 20, 3) := by decide +kernel
theorem d_RL_lowestBit_8 : decode b_RL_lowestBit 8 = .ok (.aload_n 0, 1) := by decide +kernel
theorem d_RL_lowestBit_9 : decode b_RL_lowestBit 9 = .ok (.iload_n 1, 1) := by decide +kernel
theorem d_RL_lowestBit_10 : decode b_RL_lowestBit 10 = .ok (.iload_n 3, 1) := by decide +kernel
theorem d_RL_lowestBit_11 : decode b_RL_lowestBit 11 = .ok (.invokevirtual 52, 3) := by decide +kernel
theorem d_RL_lowestBit_14 : decode b_RL_lowestBit 14 = .ok (.ifCond .eq 5, 3) := by decide +kernel
theorem d_RL_lowestBit_17 : decode b_RL_lowestBit 17 = .ok (.iload_n 3, 1) := by decide +kernel
theorem d_RL_lowestBit_18 : decode b_RL_lowestBit 18 = .ok (.ireturn, 1) := by decide +kernel
theorem d_RL_lowestBit_19 : decode b_RL_lowestBit 19 = .ok (.iinc 3 1, 3) := by decide +kernel
theorem d_RL_lowestBit_22 : decode b_RL_lowestBit 22 = .ok (.goto (-20), 3) := by decide +kernel
theorem d_RL_lowestBit_25 : decode b_RL_lowestBit 25 = .ok (.iconst (-1), 1) := by decide +kernel
theorem d_RL_lowestBit_26 : decode b_RL_lowestBit 26 = .ok (.ireturn, 1) := by decide +kernel
theorem d_RL_versionOf_0 : decode b_RL_versionOf 0 = .ok (.aload_n 0, 1) := by decide +kernel
theorem d_RL_versionOf_1 : decode b_RL_versionOf 1 = .ok (.getfield 32, 3) := by decide +kernel
theorem d_RL_versionOf_4 : decode b_RL_versionOf 4 = .ok (.aload_n 0, 1) := by decide +kernel
theorem d_RL_versionOf_5 : decode b_RL_versionOf 5 = .ok (.iload_n 1, 1) := by decide +kernel
theorem d_RL_versionOf_6 : decode b_RL_versionOf 6 = .ok (.invokevirtual 45, 3) := by decide +kernel
theorem d_RL_versionOf_9 : decode b_RL_versionOf 9 = .ok (.iconst 4, 1) := by decide +kernel
theorem d_RL_versionOf_10 : decode b_RL_versionOf 10 = .ok (.iadd, 1) := by decide +kernel
theorem d_RL_versionOf_11 : decode b_RL_versionOf 11 = .ok (.invokestatic 56, 3) := by decide +kernel
theorem d_RL_versionOf_14 : decode b_RL_versionOf 14 = .ok (.ireturn, 1) := by decide +kernel
theorem d_RL_entryOf_0 : decode b_RL_entryOf 0 = .ok (.aload_n 0, 1) := by decide +kernel
theorem d_RL_entryOf_1 : decode b_RL_entryOf 1 = .ok (.getfield 32, 3) := by decide +kernel
theorem d_RL_entryOf_4 : decode b_RL_entryOf 4 = .ok (.aload_n 0, 1) := by decide +kernel
theorem d_RL_entryOf_5 : decode b_RL_entryOf 5 = .ok (.iload_n 1, 1) := by decide +kernel
theorem d_RL_entryOf_6 : decode b_RL_entryOf 6 = .ok (.invokevirtual 45, 3) := by decide +kernel
theorem d_RL_entryOf_9 : decode b_RL_entryOf 9 = .ok (.bipush 8, 2) := by decide +kernel
theorem d_RL_entryOf_11 : decode b_RL_entryOf 11 = .ok (.iadd, 1) := by decide +kernel
theorem d_RL_entryOf_12 : decode b_RL_entryOf 12 = .ok (.iconst 4, 1) := by decide +kernel
theorem d_RL_entryOf_13 : decode b_RL_entryOf 13 = .ok (.iload_n 2, 1) := by decide +kernel
theorem d_RL_entryOf_14 : decode b_RL_entryOf 14 = .ok (.imul, 1) := by decide +kernel
theorem d_RL_entryOf_15 : decode b_RL_entryOf 15 = .ok (.iadd, 1) := by decide +kernel
theorem d_RL_entryOf_16 : decode b_RL_entryOf 16 = .ok (.invokestatic 56, 3) := by decide +kernel
theorem d_RL_entryOf_19 : decode b_RL_entryOf 19 = .ok (.ireturn, 1) := by decide +kernel
theorem d_RL_numberOf_0 : decode b_RL_numberOf 0 = .ok (.aload_n 0, 1) := by decide +kernel
theorem d_RL_numberOf_1 : decode b_RL_numberOf 1 = .ok (.getfield 32, 3) := by decide +kernel
theorem d_RL_numberOf_4 : decode b_RL_numberOf 4 = .ok (.aload_n 0, 1) := by decide +kernel
theorem d_RL_numberOf_5 : decode b_RL_numberOf 5 = .ok (.iload_n 1, 1) := by decide +kernel
theorem d_RL_numberOf_6 : decode b_RL_numberOf 6 = .ok (.invokevirtual 45, 3) := by decide +kernel
theorem d_RL_numberOf_9 : decode b_RL_numberOf 9 = .ok (.bipush 40, 2) := by decide +kernel
theorem d_RL_numberOf_11 : decode b_RL_numberOf 11 = .ok (.iadd, 1) := by decide +kernel
theorem d_RL_numberOf_12 : decode b_RL_numberOf 12 = .ok (.invokestatic 56, 3) := by decide +kernel
theorem d_RL_numberOf_15 : decode b_RL_numberOf 15 = .ok (.ireturn, 1) := by decide +kernel
theorem d_RL_isBad_0 : decode b_RL_isBad 0 = .ok (.aload_n 0, 1) := by decide +kernel
theorem d_RL_isBad_1 : decode b_RL_isBad 1 = .ok (.iload_n 1, 1) := by decide +kernel
theorem d_RL_isBad_2 : decode b_RL_isBad 2 = .ok (.invokevirtual 60, 3) := by decide +kernel
theorem d_RL_isBad_5 : decode b_RL_isBad 5 = .ok (.ifCond .eq 21, 3) := by decide +kernel
theorem d_RL_isBad_8 : decode b_RL_isBad 8 = .ok (.aload_n 0, 1) := by decide +kernel
theorem d_RL_isBad_9 : decode b_RL_isBad 9 = .ok (.iload_n 1, 1) := by decide +kernel
theorem d_RL_isBad_10 : decode b_RL_isBad 10 = .ok (.invokevirtual 64, 3) := by decide +kernel
theorem d_RL_isBad_13 : decode b_RL_isBad 13 = .ok (.ifCond .eq 13, 3) := by decide +kernel
theorem d_RL_isBad_16 : decode b_RL_isBad 16 = .ok (.aload_n 0, 1) := by decide +kernel
theorem d_RL_isBad_17 : decode b_RL_isBad 17 = .ok (.iload_n 1, 1) := by decide +kernel
theorem d_RL_isBad_18 : decode b_RL_isBad 18 = .ok (.iconst 0, 1) := by decide +kernel
theorem d_RL_isBad_19 : decode b_RL_isBad 19 = .ok (.invokevirtual 49, 3) := by decide +kernel
theorem d_RL_isBad_22 : decode b_RL_isBad 22 = .ok (.iload_n 2, 1) := by decide +kernel
theorem d_RL_isBad_23 : decode b_RL_isBad 23 = .ok (.if_icmp .eq 7, 3) := by decide +kernel
theorem d_RL_isBad_26 : decode b_RL_isBad 26 = .ok (.iconst 1, 1) := by decide +kernel
theorem d_RL_isBad_27 : decode b_RL_isBad 27 = .ok (.goto 4, 3) := by decide +kernel
theorem d_RL_isBad_30 : decode b_RL_isBad 30 = .ok (.iconst 0, 1) := by decide +kernel
theorem d_RL_isBad_31 : decode b_RL_isBad 31 = .ok (.ireturn, 1) := by decide +kernel
theorem d_RL_isSound_0 : decode b_RL_isSound 0 = .ok (.aload_n 0, 1) := by decide +kernel
theorem d_RL_isSound_1 : decode b_RL_isSound 1 = .ok (.iload_n 1, 1) := by decide +kernel
theorem d_RL_isSound_2 : decode b_RL_isSound 2 = .ok (.invokevirtual 45, 3) := by decide +kernel
theorem d_RL_isSound_5 : decode b_RL_isSound 5 = .ok (.istore_n 2, 1) := by decide +kernel
theorem d_RL_isSound_6 : decode b_RL_isSound 6 = .ok (.aload_n 0, 1) := by decide +kernel
theorem d_RL_isSound_7 : decode b_RL_isSound 7 = .ok (.getfield 32, 3) := by decide +kernel
theorem d_RL_isSound_10 : decode b_RL_isSound 10 = .ok (.iload_n 2, 1) := by decide +kernel
theorem d_RL_isSound_11 : decode b_RL_isSound 11 = .ok (.bipush 40, 2) := by decide +kernel
theorem d_RL_isSound_13 : decode b_RL_isSound 13 = .ok (.iadd, 1) := by decide +kernel
theorem d_RL_isSound_14 : decode b_RL_isSound 14 = .ok (.invokestatic 56, 3) := by decide +kernel
theorem d_RL_isSound_17 : decode b_RL_isSound 17 = .ok (.iload_n 1, 1) := by decide +kernel
theorem d_RL_isSound_18 : decode b_RL_isSound 18 = .ok (.if_icmp .ne 15, 3) := by decide +kernel
theorem d_RL_isSound_21 : decode b_RL_isSound 21 = .ok (.aload_n 0, 1) := by decide +kernel
theorem d_RL_isSound_22 : decode b_RL_isSound 22 = .ok (.iload_n 2, 1) := by decide +kernel
theorem d_RL_isSound_23 : decode b_RL_isSound 23 = .ok (.invokevirtual 67, 3) := by decide +kernel
theorem d_RL_isSound_26 : decode b_RL_isSound 26 = .ok (.ifCond .eq 7, 3) := by decide +kernel
theorem d_RL_isSound_29 : decode b_RL_isSound 29 = .ok (.iconst 1, 1) := by decide +kernel
theorem d_RL_isSound_30 : decode b_RL_isSound 30 = .ok (.goto 4, 3) := by decide +kernel
theorem d_RL_isSound_33 : decode b_RL_isSound 33 = .ok (.iconst 0, 1) := by decide +kernel
theorem d_RL_isSound_34 : decode b_RL_isSound 34 = .ok (.ireturn, 1) := by decide +kernel
theorem d_RL_isWholeRoot_0 : decode b_RL_isWholeRoot 0 = .ok (.aload_n 0, 1) := by decide +kernel
theorem d_RL_isWholeRoot_1 : decode b_RL_isWholeRoot 1 = .ok (.iload_n 1, 1) := by decide +kernel
theorem d_RL_isWholeRoot_2 : decode b_RL_isWholeRoot 2 = .ok (.invokevirtual 45, 3) := by decide +kernel
theorem d_RL_isWholeRoot_5 : decode b_RL_isWholeRoot 5 = .ok (.istore_n 2, 1) := by decide +kernel
theorem d_RL_isWholeRoot_6 : decode b_RL_isWholeRoot 6 = .ok (.aload_n 0, 1) := by decide +kernel
theorem d_RL_isWholeRoot_7 : decode b_RL_isWholeRoot 7 = .ok (.iload_n 1, 1) := by decide +kernel
theorem d_RL_isWholeRoot_8 : decode b_RL_isWholeRoot 8 = .ok (.invokevirtual 70, 3) := by decide +kernel
theorem d_RL_isWholeRoot_11 : decode b_RL_isWholeRoot 11 = .ok (.istore_n 3, 1) := by decide +kernel
theorem d_RL_isWholeRoot_12 : decode b_RL_isWholeRoot 12 = .ok (.aload_n 0, 1) := by decide +kernel
theorem d_RL_isWholeRoot_13 : decode b_RL_isWholeRoot 13 = .ok (.iload_n 1, 1) := by decide +kernel
theorem d_RL_isWholeRoot_14 : decode b_RL_isWholeRoot 14 = .ok (.invokevirtual 73, 3) := by decide +kernel
theorem d_RL_isWholeRoot_17 : decode b_RL_isWholeRoot 17 = .ok (.istore 4, 2) := by decide +kernel
theorem d_RL_isWholeRoot_19 : decode b_RL_isWholeRoot 19 = .ok (.aload_n 0, 1) := by decide +kernel
theorem d_RL_isWholeRoot_20 : decode b_RL_isWholeRoot 20 = .ok (.iload_n 1, 1) := by decide +kernel
theorem d_RL_isWholeRoot_21 : decode b_RL_isWholeRoot 21 = .ok (.iconst 2, 1) := by decide +kernel
theorem d_RL_isWholeRoot_22 : decode b_RL_isWholeRoot 22 = .ok (.invokevirtual 76, 3) := by decide +kernel
theorem d_RL_isWholeRoot_25 : decode b_RL_isWholeRoot 25 = .ok (.istore 5, 2) := by decide +kernel
theorem d_RL_isWholeRoot_27 : decode b_RL_isWholeRoot 27 = .ok (.aload_n 0, 1) := by decide +kernel
theorem d_RL_isWholeRoot_28 : decode b_RL_isWholeRoot 28 = .ok (.iload_n 1, 1) := by decide +kernel
theorem d_RL_isWholeRoot_29 : decode b_RL_isWholeRoot 29 = .ok (.iconst 0, 1) := by decide +kernel
theorem d_RL_isWholeRoot_30 : decode b_RL_isWholeRoot 30 = .ok (.invokevirtual 49, 3) := by decide +kernel
theorem d_RL_isWholeRoot_33 : decode b_RL_isWholeRoot 33 = .ok (.iconst 4, 1) := by decide +kernel
theorem d_RL_isWholeRoot_34 : decode b_RL_isWholeRoot 34 = .ok (.if_icmp .ne 69, 3) := by decide +kernel
theorem d_RL_isWholeRoot_37 : decode b_RL_isWholeRoot 37 = .ok (.iload_n 3, 1) := by decide +kernel
theorem d_RL_isWholeRoot_38 : decode b_RL_isWholeRoot 38 = .ok (.ifCond .lt 65, 3) := by decide +kernel
theorem d_RL_isWholeRoot_41 : decode b_RL_isWholeRoot 41 = .ok (.iload_n 3, 1) := by decide +kernel
theorem d_RL_isWholeRoot_42 : decode b_RL_isWholeRoot 42 = .ok (.ldc 79, 2) := by decide +kernel
theorem d_RL_isWholeRoot_44 : decode b_RL_isWholeRoot 44 = .ok (.if_icmp .gt 59, 3) := by decide +kernel
theorem d_RL_isWholeRoot_47 : decode b_RL_isWholeRoot 47 = .ok (.aload_n 0, 1) := by decide +kernel
theorem d_RL_isWholeRoot_48 : decode b_RL_isWholeRoot 48 = .ok (.iload_n 3, 1) := by decide +kernel
theorem d_RL_isWholeRoot_49 : decode b_RL_isWholeRoot 49 = .ok (.invokevirtual 45, 3) := by decide +kernel
theorem d_RL_isWholeRoot_52 : decode b_RL_isWholeRoot 52 = .ok (.iload_n 2, 1) := by decide +kernel
theorem d_RL_isWholeRoot_53 : decode b_RL_isWholeRoot 53 = .ok (.if_icmp .ne 50, 3) := by decide +kernel
theorem d_RL_isWholeRoot_56 : decode b_RL_isWholeRoot 56 = .ok (.iload 4, 2) := by decide +kernel
theorem d_RL_isWholeRoot_58 : decode b_RL_isWholeRoot 58 = .ok (.iconst 1, 1) := by decide +kernel
theorem d_RL_isWholeRoot_59 : decode b_RL_isWholeRoot 59 = .ok (.if_icmp .lt 44, 3) := by decide +kernel
theorem d_RL_isWholeRoot_62 : decode b_RL_isWholeRoot 62 = .ok (.iload 4, 2) := by decide +kernel
theorem d_RL_isWholeRoot_64 : decode b_RL_isWholeRoot 64 = .ok (.ldc 79, 2) := by decide +kernel
theorem d_RL_isWholeRoot_66 : decode b_RL_isWholeRoot 66 = .ok (.if_icmp .gt 37, 3) := by decide +kernel
theorem d_RL_isWholeRoot_69 : decode b_RL_isWholeRoot 69 = .ok (.iload 5, 2) := by decide +kernel
theorem d_RL_isWholeRoot_71 : decode b_RL_isWholeRoot 71 = .ok (.ifCond .lt 32, 3) := by decide +kernel
theorem d_RL_isWholeRoot_74 : decode b_RL_isWholeRoot 74 = .ok (.iload 5, 2) := by decide +kernel
theorem d_RL_isWholeRoot_76 : decode b_RL_isWholeRoot 76 = .ok (.iload_n 3, 1) := by decide +kernel
theorem d_RL_isWholeRoot_77 : decode b_RL_isWholeRoot 77 = .ok (.if_icmp .gt 26, 3) := by decide +kernel
theorem d_RL_isWholeRoot_80 : decode b_RL_isWholeRoot 80 = .ok (.iload_n 3, 1) := by decide +kernel
theorem d_RL_isWholeRoot_81 : decode b_RL_isWholeRoot 81 = .ok (.iload 5, 2) := by decide +kernel
theorem d_RL_isWholeRoot_83 : decode b_RL_isWholeRoot 83 = .ok (.isub, 1) := by decide +kernel
theorem d_RL_isWholeRoot_84 : decode b_RL_isWholeRoot 84 = .ok (.aload_n 0, 1) := by decide +kernel
theorem d_RL_isWholeRoot_85 : decode b_RL_isWholeRoot 85 = .ok (.getfield 28, 3) := by decide +kernel
theorem d_RL_isWholeRoot_88 : decode b_RL_isWholeRoot 88 = .ok (.if_icmp .ge 15, 3) := by decide +kernel
theorem d_RL_isWholeRoot_91 : decode b_RL_isWholeRoot 91 = .ok (.aload_n 0, 1) := by decide +kernel
theorem d_RL_isWholeRoot_92 : decode b_RL_isWholeRoot 92 = .ok (.iload_n 2, 1) := by decide +kernel
theorem d_RL_isWholeRoot_93 : decode b_RL_isWholeRoot 93 = .ok (.invokevirtual 67, 3) := by decide +kernel
theorem d_RL_isWholeRoot_96 : decode b_RL_isWholeRoot 96 = .ok (.ifCond .eq 7, 3) := by decide +kernel
theorem d_RL_isWholeRoot_99 : decode b_RL_isWholeRoot 99 = .ok (.iconst 1, 1) := by decide +kernel
theorem d_RL_isWholeRoot_100 : decode b_RL_isWholeRoot 100 = .ok (.goto 4, 3) := by decide +kernel
theorem d_RL_isWholeRoot_103 : decode b_RL_isWholeRoot 103 = .ok (.iconst 0, 1) := by decide +kernel
theorem d_RL_isWholeRoot_104 : decode b_RL_isWholeRoot 104 = .ok (.ireturn, 1) := by decide +kernel
theorem d_RL_newestRootSlot_0 : decode b_RL_newestRootSlot 0 = .ok (.iconst (-1), 1) := by decide +kernel
theorem d_RL_newestRootSlot_1 : decode b_RL_newestRootSlot 1 = .ok (.istore_n 1, 1) := by decide +kernel
theorem d_RL_newestRootSlot_2 : decode b_RL_newestRootSlot 2 = .ok (.iconst 0, 1) := by decide +kernel
theorem d_RL_newestRootSlot_3 : decode b_RL_newestRootSlot 3 = .ok (.istore_n 2, 1) := by decide +kernel
theorem d_RL_newestRootSlot_4 : decode b_RL_newestRootSlot 4 = .ok (.iload_n 2, 1) := by decide +kernel
theorem d_RL_newestRootSlot_5 : decode b_RL_newestRootSlot 5 = .ok (.aload_n 0, 1) := by decide +kernel
theorem d_RL_newestRootSlot_6 : decode b_RL_newestRootSlot 6 = .ok (.getfield 28, 3) := by decide +kernel
theorem d_RL_newestRootSlot_9 : decode b_RL_newestRootSlot 9 = .ok (.if_icmp .ge 33, 3) := by decide +kernel
theorem d_RL_newestRootSlot_12 : decode b_RL_newestRootSlot 12 = .ok (.aload_n 0, 1) := by decide +kernel
theorem d_RL_newestRootSlot_13 : decode b_RL_newestRootSlot 13 = .ok (.iload_n 2, 1) := by decide +kernel
theorem d_RL_newestRootSlot_14 : decode b_RL_newestRootSlot 14 = .ok (.invokevirtual 80, 3) := by decide +kernel
theorem d_RL_newestRootSlot_17 : decode b_RL_newestRootSlot 17 = .ok (.ifCond .eq 19, 3) := by decide +kernel
theorem d_RL_newestRootSlot_20 : decode b_RL_newestRootSlot 20 = .ok (.iload_n 1, 1) := by decide +kernel
theorem d_RL_newestRootSlot_21 : decode b_RL_newestRootSlot 21 = .ok (.iconst (-1), 1) := by decide +kernel
theorem d_RL_newestRootSlot_22 : decode b_RL_newestRootSlot 22 = .ok (.if_icmp .eq 12, 3) := by decide +kernel
theorem d_RL_newestRootSlot_25 : decode b_RL_newestRootSlot 25 = .ok (.aload_n 0, 1) := by decide +kernel
theorem d_RL_newestRootSlot_26 : decode b_RL_newestRootSlot 26 = .ok (.iload_n 2, 1) := by decide +kernel
theorem d_RL_newestRootSlot_27 : decode b_RL_newestRootSlot 27 = .ok (.iload_n 1, 1) := by decide +kernel
theorem d_RL_newestRootSlot_28 : decode b_RL_newestRootSlot 28 = .ok (.invokevirtual 83, 3) := by decide +kernel
theorem d_RL_newestRootSlot_31 : decode b_RL_newestRootSlot 31 = .ok (.ifCond .eq 5, 3) := by decide +kernel
theorem d_RL_newestRootSlot_34 : decode b_RL_newestRootSlot 34 = .ok (.iload_n 2, 1) := by decide +kernel
theorem d_RL_newestRootSlot_35 : decode b_RL_newestRootSlot 35 = .ok (.istore_n 1, 1) := by decide +kernel
theorem d_RL_newestRootSlot_36 : decode b_RL_newestRootSlot 36 = .ok (.iinc 2 1, 3) := by decide +kernel
theorem d_RL_newestRootSlot_39 : decode b_RL_newestRootSlot 39 = .ok (.goto (-35), 3) := by decide +kernel
theorem d_RL_newestRootSlot_42 : decode b_RL_newestRootSlot 42 = .ok (.iload_n 1, 1) := by decide +kernel
theorem d_RL_newestRootSlot_43 : decode b_RL_newestRootSlot 43 = .ok (.ireturn, 1) := by decide +kernel
theorem d_RL_write_0 : decode b_RL_write 0 = .ok (.aload_n 0, 1) := by decide +kernel
theorem d_RL_write_1 : decode b_RL_write 1 = .ok (.iload_n 1, 1) := by decide +kernel
theorem d_RL_write_2 : decode b_RL_write 2 = .ok (.iload_n 2, 1) := by decide +kernel
theorem d_RL_write_3 : decode b_RL_write 3 = .ok (.iload_n 3, 1) := by decide +kernel
theorem d_RL_write_4 : decode b_RL_write 4 = .ok (.iload 4, 2) := by decide +kernel
theorem d_RL_write_6 : decode b_RL_write 6 = .ok (.aload 5, 2) := by decide +kernel
theorem d_RL_write_8 : decode b_RL_write 8 = .ok (.iload 6, 2) := by decide +kernel
theorem d_RL_write_10 : decode b_RL_write 10 = .ok (.invokevirtual 86, 3) := by decide +kernel
theorem d_RL_write_13 : decode b_RL_write 13 = .ok (.aload_n 0, 1) := by decide +kernel
theorem d_RL_write_14 : decode b_RL_write 14 = .ok (.iload_n 1, 1) := by decide +kernel
theorem d_RL_write_15 : decode b_RL_write 15 = .ok (.invokevirtual 45, 3) := by decide +kernel
theorem d_RL_write_18 : decode b_RL_write 18 = .ok (.istore 7, 2) := by decide +kernel
theorem d_RL_write_20 : decode b_RL_write 20 = .ok (.aload_n 0, 1) := by decide +kernel
theorem d_RL_write_21 : decode b_RL_write 21 = .ok (.getfield 15, 3) := by decide +kernel
theorem d_RL_write_24 : decode b_RL_write 24 = .ok (.bipush 64, 2) := by decide +kernel
theorem d_RL_write_26 : decode b_RL_write 26 = .ok (.invokevirtual 90, 3) := by decide +kernel
theorem d_RL_write_29 : decode b_RL_write 29 = .ok (.istore 8, 2) := by decide +kernel
theorem d_RL_write_31 : decode b_RL_write 31 = .ok (.aload_n 0, 1) := by decide +kernel
theorem d_RL_write_32 : decode b_RL_write 32 = .ok (.getfield 11, 3) := by decide +kernel
theorem d_RL_write_35 : decode b_RL_write 35 = .ok (.iconst 0, 1) := by decide +kernel
theorem d_RL_write_36 : decode b_RL_write 36 = .ok (.aload_n 0, 1) := by decide +kernel
theorem d_RL_write_37 : decode b_RL_write 37 = .ok (.getfield 32, 3) := by decide +kernel
theorem d_RL_write_40 : decode b_RL_write 40 = .ok (.iload 7, 2) := by decide +kernel
theorem d_RL_write_42 : decode b_RL_write 42 = .ok (.iload 8, 2) := by decide +kernel
theorem d_RL_write_44 : decode b_RL_write 44 = .ok (.invokestatic 95, 3) := by decide +kernel
theorem d_RL_write_47 : decode b_RL_write 47 = .ok (.iload 8, 2) := by decide +kernel
theorem d_RL_write_49 : decode b_RL_write 49 = .ok (.ifCond .le 25, 3) := by decide +kernel
theorem d_RL_write_52 : decode b_RL_write 52 = .ok (.aload_n 0, 1) := by decide +kernel
theorem d_RL_write_53 : decode b_RL_write 53 = .ok (.getfield 35, 3) := by decide +kernel
theorem d_RL_write_56 : decode b_RL_write 56 = .ok (.iload 7, 2) := by decide +kernel
theorem d_RL_write_58 : decode b_RL_write 58 = .ok (.bipush 64, 2) := by decide +kernel
theorem d_RL_write_60 : decode b_RL_write 60 = .ok (.idiv, 1) := by decide +kernel
theorem d_RL_write_61 : decode b_RL_write 61 = .ok (.iload 8, 2) := by decide +kernel
theorem d_RL_write_63 : decode b_RL_write 63 = .ok (.bipush 64, 2) := by decide +kernel
theorem d_RL_write_65 : decode b_RL_write 65 = .ok (.if_icmp .ge 7, 3) := by decide +kernel
theorem d_RL_write_68 : decode b_RL_write 68 = .ok (.iconst 1, 1) := by decide +kernel
theorem d_RL_write_69 : decode b_RL_write 69 = .ok (.goto 4, 3) := by decide +kernel
theorem d_RL_write_72 : decode b_RL_write 72 = .ok (.iconst 0, 1) := by decide +kernel
theorem d_RL_write_73 : decode b_RL_write 73 = .ok (.bastore, 1) := by decide +kernel
theorem d_RL_write_74 : decode b_RL_write 74 = .ok (.aload_n 0, 1) := by decide +kernel
theorem d_RL_write_75 : decode b_RL_write 75 = .ok (.getfield 15, 3) := by decide +kernel
theorem d_RL_write_78 : decode b_RL_write 78 = .ok (.invokevirtual 101, 3) := by decide +kernel
theorem d_RL_write_81 : decode b_RL_write 81 = .ok (.ifCond .ne 7, 3) := by decide +kernel
theorem d_RL_write_84 : decode b_RL_write 84 = .ok (.iconst 1, 1) := by decide +kernel
theorem d_RL_write_85 : decode b_RL_write 85 = .ok (.goto 4, 3) := by decide +kernel
theorem d_RL_write_88 : decode b_RL_write 88 = .ok (.iconst 0, 1) := by decide +kernel
theorem d_RL_write_89 : decode b_RL_write 89 = .ok (.ireturn, 1) := by decide +kernel
theorem d_RL_makeUp_0 : decode b_RL_makeUp 0 = .ok (.aload_n 0, 1) := by decide +kernel
theorem d_RL_makeUp_1 : decode b_RL_makeUp 1 = .ok (.getfield 11, 3) := by decide +kernel
theorem d_RL_makeUp_4 : decode b_RL_makeUp 4 = .ok (.iconst 0, 1) := by decide +kernel
theorem d_RL_makeUp_5 : decode b_RL_makeUp 5 = .ok (.iload_n 2, 1) := by decide +kernel
theorem d_RL_makeUp_6 : decode b_RL_makeUp 6 = .ok (.i2b, 1) := by decide +kernel
theorem d_RL_makeUp_7 : decode b_RL_makeUp 7 = .ok (.bastore, 1) := by decide +kernel
theorem d_RL_makeUp_8 : decode b_RL_makeUp 8 = .ok (.aload_n 0, 1) := by decide +kernel
theorem d_RL_makeUp_9 : decode b_RL_makeUp 9 = .ok (.getfield 11, 3) := by decide +kernel
theorem d_RL_makeUp_12 : decode b_RL_makeUp 12 = .ok (.iconst 1, 1) := by decide +kernel
theorem d_RL_makeUp_13 : decode b_RL_makeUp 13 = .ok (.iload_n 3, 1) := by decide +kernel
theorem d_RL_makeUp_14 : decode b_RL_makeUp 14 = .ok (.i2b, 1) := by decide +kernel
theorem d_RL_makeUp_15 : decode b_RL_makeUp 15 = .ok (.bastore, 1) := by decide +kernel
theorem d_RL_makeUp_16 : decode b_RL_makeUp 16 = .ok (.aload_n 0, 1) := by decide +kernel
theorem d_RL_makeUp_17 : decode b_RL_makeUp 17 = .ok (.iconst 4, 1) := by decide +kernel
theorem d_RL_makeUp_18 : decode b_RL_makeUp 18 = .ok (.iload 4, 2) := by decide +kernel
theorem d_RL_makeUp_20 : decode b_RL_makeUp 20 = .ok (.invokevirtual 105, 3) := by decide +kernel
theorem d_RL_makeUp_23 : decode b_RL_makeUp 23 = .ok (.iconst 0, 1) := by decide +kernel
theorem d_RL_makeUp_24 : decode b_RL_makeUp 24 = .ok (.istore 7, 2) := by decide +kernel
theorem d_RL_makeUp_26 : decode b_RL_makeUp 26 = .ok (.iload 7, 2) := by decide +kernel
theorem d_RL_makeUp_28 : decode b_RL_makeUp 28 = .ok (.bipush 8, 2) := by decide +kernel
theorem d_RL_makeUp_30 : decode b_RL_makeUp 30 = .ok (.if_icmp .ge 28, 3) := by decide +kernel
theorem d_RL_makeUp_33 : decode b_RL_makeUp 33 = .ok (.aload_n 0, 1) := by decide +kernel
theorem d_RL_makeUp_34 : decode b_RL_makeUp 34 = .ok (.bipush 8, 2) := by decide +kernel
theorem d_RL_makeUp_36 : decode b_RL_makeUp 36 = .ok (.iconst 4, 1) := by decide +kernel
theorem d_RL_makeUp_37 : decode b_RL_makeUp 37 = .ok (.iload 7, 2) := by decide +kernel
theorem d_RL_makeUp_39 : decode b_RL_makeUp 39 = .ok (.imul, 1) := by decide +kernel
theorem d_RL_makeUp_40 : decode b_RL_makeUp 40 = .ok (.iadd, 1) := by decide +kernel
theorem d_RL_makeUp_41 : decode b_RL_makeUp 41 = .ok (.aload 5, 2) := by decide +kernel
theorem d_RL_makeUp_43 : decode b_RL_makeUp 43 = .ok (.iload 6, 2) := by decide +kernel
theorem d_RL_makeUp_45 : decode b_RL_makeUp 45 = .ok (.iload 7, 2) := by decide +kernel
theorem d_RL_makeUp_47 : decode b_RL_makeUp 47 = .ok (.iadd, 1) := by decide +kernel
theorem d_RL_makeUp_48 : decode b_RL_makeUp 48 = .ok (.iaload, 1) := by decide +kernel
theorem d_RL_makeUp_49 : decode b_RL_makeUp 49 = .ok (.invokevirtual 105, 3) := by decide +kernel
theorem d_RL_makeUp_52 : decode b_RL_makeUp 52 = .ok (.iinc 7 1, 3) := by decide +kernel
theorem d_RL_makeUp_55 : decode b_RL_makeUp 55 = .ok (.goto (-29), 3) := by decide +kernel
theorem d_RL_makeUp_58 : decode b_RL_makeUp 58 = .ok (.aload_n 0, 1) := by decide +kernel
theorem d_RL_makeUp_59 : decode b_RL_makeUp 59 = .ok (.bipush 40, 2) := by decide +kernel
theorem d_RL_makeUp_61 : decode b_RL_makeUp 61 = .ok (.iload_n 1, 1) := by decide +kernel
theorem d_RL_makeUp_62 : decode b_RL_makeUp 62 = .ok (.invokevirtual 105, 3) := by decide +kernel
theorem d_RL_makeUp_65 : decode b_RL_makeUp 65 = .ok (.aload_n 0, 1) := by decide +kernel
theorem d_RL_makeUp_66 : decode b_RL_makeUp 66 = .ok (.getfield 11, 3) := by decide +kernel
theorem d_RL_makeUp_69 : decode b_RL_makeUp 69 = .ok (.iconst 0, 1) := by decide +kernel
theorem d_RL_makeUp_70 : decode b_RL_makeUp 70 = .ok (.invokestatic 109, 3) := by decide +kernel
theorem d_RL_makeUp_73 : decode b_RL_makeUp 73 = .ok (.lstore 7, 2) := by decide +kernel
theorem d_RL_makeUp_75 : decode b_RL_makeUp 75 = .ok (.aload_n 0, 1) := by decide +kernel
theorem d_RL_makeUp_76 : decode b_RL_makeUp 76 = .ok (.bipush 56, 2) := by decide +kernel
theorem d_RL_makeUp_78 : decode b_RL_makeUp 78 = .ok (.lload 7, 2) := by decide +kernel
theorem d_RL_makeUp_80 : decode b_RL_makeUp 80 = .ok (.bipush 32, 2) := by decide +kernel
theorem d_RL_makeUp_82 : decode b_RL_makeUp 82 = .ok (.lushr, 1) := by decide +kernel
theorem d_RL_makeUp_83 : decode b_RL_makeUp 83 = .ok (.l2i, 1) := by decide +kernel
theorem d_RL_makeUp_84 : decode b_RL_makeUp 84 = .ok (.invokevirtual 105, 3) := by decide +kernel
theorem d_RL_makeUp_87 : decode b_RL_makeUp 87 = .ok (.aload_n 0, 1) := by decide +kernel
theorem d_RL_makeUp_88 : decode b_RL_makeUp 88 = .ok (.bipush 60, 2) := by decide +kernel
theorem d_RL_makeUp_90 : decode b_RL_makeUp 90 = .ok (.lload 7, 2) := by decide +kernel
theorem d_RL_makeUp_92 : decode b_RL_makeUp 92 = .ok (.l2i, 1) := by decide +kernel
theorem d_RL_makeUp_93 : decode b_RL_makeUp 93 = .ok (.invokevirtual 105, 3) := by decide +kernel
theorem d_RL_makeUp_96 : decode b_RL_makeUp 96 = .ok (.return_, 1) := by decide +kernel
theorem d_RL_isNewer_0 : decode b_RL_isNewer 0 = .ok (.aload_n 0, 1) := by decide +kernel
theorem d_RL_isNewer_1 : decode b_RL_isNewer 1 = .ok (.iload_n 1, 1) := by decide +kernel
theorem d_RL_isNewer_2 : decode b_RL_isNewer 2 = .ok (.invokevirtual 73, 3) := by decide +kernel
theorem d_RL_isNewer_5 : decode b_RL_isNewer 5 = .ok (.istore_n 3, 1) := by decide +kernel
theorem d_RL_isNewer_6 : decode b_RL_isNewer 6 = .ok (.aload_n 0, 1) := by decide +kernel
theorem d_RL_isNewer_7 : decode b_RL_isNewer 7 = .ok (.iload_n 2, 1) := by decide +kernel
theorem d_RL_isNewer_8 : decode b_RL_isNewer 8 = .ok (.invokevirtual 73, 3) := by decide +kernel
theorem d_RL_isNewer_11 : decode b_RL_isNewer 11 = .ok (.istore 4, 2) := by decide +kernel
theorem d_RL_isNewer_13 : decode b_RL_isNewer 13 = .ok (.iload_n 3, 1) := by decide +kernel
theorem d_RL_isNewer_14 : decode b_RL_isNewer 14 = .ok (.iload 4, 2) := by decide +kernel
theorem d_RL_isNewer_16 : decode b_RL_isNewer 16 = .ok (.if_icmp .gt 22, 3) := by decide +kernel
theorem d_RL_isNewer_19 : decode b_RL_isNewer 19 = .ok (.iload_n 3, 1) := by decide +kernel
theorem d_RL_isNewer_20 : decode b_RL_isNewer 20 = .ok (.iload 4, 2) := by decide +kernel
theorem d_RL_isNewer_22 : decode b_RL_isNewer 22 = .ok (.if_icmp .ne 20, 3) := by decide +kernel
theorem d_RL_isNewer_25 : decode b_RL_isNewer 25 = .ok (.aload_n 0, 1) := by decide +kernel
theorem d_RL_isNewer_26 : decode b_RL_isNewer 26 = .ok (.iload_n 1, 1) := by decide +kernel
theorem d_RL_isNewer_27 : decode b_RL_isNewer 27 = .ok (.invokevirtual 70, 3) := by decide +kernel
theorem d_RL_isNewer_30 : decode b_RL_isNewer 30 = .ok (.aload_n 0, 1) := by decide +kernel
theorem d_RL_isNewer_31 : decode b_RL_isNewer 31 = .ok (.iload_n 2, 1) := by decide +kernel
theorem d_RL_isNewer_32 : decode b_RL_isNewer 32 = .ok (.invokevirtual 70, 3) := by decide +kernel
theorem d_RL_isNewer_35 : decode b_RL_isNewer 35 = .ok (.if_icmp .le 7, 3) := by decide +kernel
theorem d_RL_isNewer_38 : decode b_RL_isNewer 38 = .ok (.iconst 1, 1) := by decide +kernel
theorem d_RL_isNewer_39 : decode b_RL_isNewer 39 = .ok (.goto 4, 3) := by decide +kernel
theorem d_RL_isNewer_42 : decode b_RL_isNewer 42 = .ok (.iconst 0, 1) := by decide +kernel
theorem d_RL_isNewer_43 : decode b_RL_isNewer 43 = .ok (.ireturn, 1) := by decide +kernel
theorem d_RL_isSumRight_0 : decode b_RL_isSumRight 0 = .ok (.aload_n 0, 1) := by decide +kernel
theorem d_RL_isSumRight_1 : decode b_RL_isSumRight 1 = .ok (.getfield 32, 3) := by decide +kernel
theorem d_RL_isSumRight_4 : decode b_RL_isSumRight 4 = .ok (.iload_n 1, 1) := by decide +kernel
theorem d_RL_isSumRight_5 : decode b_RL_isSumRight 5 = .ok (.invokestatic 109, 3) := by decide +kernel
theorem d_RL_isSumRight_8 : decode b_RL_isSumRight 8 = .ok (.lstore_n 2, 1) := by decide +kernel
theorem d_RL_isSumRight_9 : decode b_RL_isSumRight 9 = .ok (.aload_n 0, 1) := by decide +kernel
theorem d_RL_isSumRight_10 : decode b_RL_isSumRight 10 = .ok (.getfield 35, 3) := by decide +kernel
theorem d_RL_isSumRight_13 : decode b_RL_isSumRight 13 = .ok (.iload_n 1, 1) := by decide +kernel
theorem d_RL_isSumRight_14 : decode b_RL_isSumRight 14 = .ok (.bipush 64, 2) := by decide +kernel
theorem d_RL_isSumRight_16 : decode b_RL_isSumRight 16 = .ok (.idiv, 1) := by decide +kernel
theorem d_RL_isSumRight_17 : decode b_RL_isSumRight 17 = .ok (.baload, 1) := by decide +kernel
theorem d_RL_isSumRight_18 : decode b_RL_isSumRight 18 = .ok (.ifCond .ne 44, 3) := by decide +kernel
theorem d_RL_isSumRight_21 : decode b_RL_isSumRight 21 = .ok (.aload_n 0, 1) := by decide +kernel
theorem d_RL_isSumRight_22 : decode b_RL_isSumRight 22 = .ok (.getfield 32, 3) := by decide +kernel
theorem d_RL_isSumRight_25 : decode b_RL_isSumRight 25 = .ok (.iload_n 1, 1) := by decide +kernel
theorem d_RL_isSumRight_26 : decode b_RL_isSumRight 26 = .ok (.bipush 56, 2) := by decide +kernel
theorem d_RL_isSumRight_28 : decode b_RL_isSumRight 28 = .ok (.iadd, 1) := by decide +kernel
theorem d_RL_isSumRight_29 : decode b_RL_isSumRight 29 = .ok (.invokestatic 56, 3) := by decide +kernel
theorem d_RL_isSumRight_32 : decode b_RL_isSumRight 32 = .ok (.lload_n 2, 1) := by decide +kernel
theorem d_RL_isSumRight_33 : decode b_RL_isSumRight 33 = .ok (.bipush 32, 2) := by decide +kernel
theorem d_RL_isSumRight_35 : decode b_RL_isSumRight 35 = .ok (.lushr, 1) := by decide +kernel
theorem d_RL_isSumRight_36 : decode b_RL_isSumRight 36 = .ok (.l2i, 1) := by decide +kernel
theorem d_RL_isSumRight_37 : decode b_RL_isSumRight 37 = .ok (.if_icmp .ne 25, 3) := by decide +kernel
theorem d_RL_isSumRight_40 : decode b_RL_isSumRight 40 = .ok (.aload_n 0, 1) := by decide +kernel
theorem d_RL_isSumRight_41 : decode b_RL_isSumRight 41 = .ok (.getfield 32, 3) := by decide +kernel
theorem d_RL_isSumRight_44 : decode b_RL_isSumRight 44 = .ok (.iload_n 1, 1) := by decide +kernel
theorem d_RL_isSumRight_45 : decode b_RL_isSumRight 45 = .ok (.bipush 56, 2) := by decide +kernel
theorem d_RL_isSumRight_47 : decode b_RL_isSumRight 47 = .ok (.iadd, 1) := by decide +kernel
theorem d_RL_isSumRight_48 : decode b_RL_isSumRight 48 = .ok (.iconst 4, 1) := by decide +kernel
theorem d_RL_isSumRight_49 : decode b_RL_isSumRight 49 = .ok (.iadd, 1) := by decide +kernel
theorem d_RL_isSumRight_50 : decode b_RL_isSumRight 50 = .ok (.invokestatic 56, 3) := by decide +kernel
theorem d_RL_isSumRight_53 : decode b_RL_isSumRight 53 = .ok (.lload_n 2, 1) := by decide +kernel
theorem d_RL_isSumRight_54 : decode b_RL_isSumRight 54 = .ok (.l2i, 1) := by decide +kernel
theorem d_RL_isSumRight_55 : decode b_RL_isSumRight 55 = .ok (.if_icmp .ne 7, 3) := by decide +kernel
theorem d_RL_isSumRight_58 : decode b_RL_isSumRight 58 = .ok (.iconst 1, 1) := by decide +kernel
theorem d_RL_isSumRight_59 : decode b_RL_isSumRight 59 = .ok (.goto 4, 3) := by decide +kernel
theorem d_RL_isSumRight_62 : decode b_RL_isSumRight 62 = .ok (.iconst 0, 1) := by decide +kernel
theorem d_RL_isSumRight_63 : decode b_RL_isSumRight 63 = .ok (.ireturn, 1) := by decide +kernel
theorem d_RL_offsetOf_0 : decode b_RL_offsetOf 0 = .ok (.iload_n 1, 1) := by decide +kernel
theorem d_RL_offsetOf_1 : decode b_RL_offsetOf 1 = .ok (.aload_n 0, 1) := by decide +kernel
theorem d_RL_offsetOf_2 : decode b_RL_offsetOf 2 = .ok (.getfield 28, 3) := by decide +kernel
theorem d_RL_offsetOf_5 : decode b_RL_offsetOf 5 = .ok (.invokestatic 113, 3) := by decide +kernel
theorem d_RL_offsetOf_8 : decode b_RL_offsetOf 8 = .ok (.bipush 64, 2) := by decide +kernel
theorem d_RL_offsetOf_10 : decode b_RL_offsetOf 10 = .ok (.imul, 1) := by decide +kernel
theorem d_RL_offsetOf_11 : decode b_RL_offsetOf 11 = .ok (.ireturn, 1) := by decide +kernel
theorem d_RL_setInt_0 : decode b_RL_setInt 0 = .ok (.aload_n 0, 1) := by decide +kernel
theorem d_RL_setInt_1 : decode b_RL_setInt 1 = .ok (.getfield 11, 3) := by decide +kernel
theorem d_RL_setInt_4 : decode b_RL_setInt 4 = .ok (.iload_n 1, 1) := by decide +kernel
theorem d_RL_setInt_5 : decode b_RL_setInt 5 = .ok (.iload_n 2, 1) := by decide +kernel
theorem d_RL_setInt_6 : decode b_RL_setInt 6 = .ok (.bipush 24, 2) := by decide +kernel
theorem d_RL_setInt_8 : decode b_RL_setInt 8 = .ok (.iushr, 1) := by decide +kernel
theorem d_RL_setInt_9 : decode b_RL_setInt 9 = .ok (.i2b, 1) := by decide +kernel
theorem d_RL_setInt_10 : decode b_RL_setInt 10 = .ok (.bastore, 1) := by decide +kernel
theorem d_RL_setInt_11 : decode b_RL_setInt 11 = .ok (.aload_n 0, 1) := by decide +kernel
theorem d_RL_setInt_12 : decode b_RL_setInt 12 = .ok (.getfield 11, 3) := by decide +kernel
theorem d_RL_setInt_15 : decode b_RL_setInt 15 = .ok (.iload_n 1, 1) := by decide +kernel
theorem d_RL_setInt_16 : decode b_RL_setInt 16 = .ok (.iconst 1, 1) := by decide +kernel
theorem d_RL_setInt_17 : decode b_RL_setInt 17 = .ok (.iadd, 1) := by decide +kernel
theorem d_RL_setInt_18 : decode b_RL_setInt 18 = .ok (.iload_n 2, 1) := by decide +kernel
theorem d_RL_setInt_19 : decode b_RL_setInt 19 = .ok (.bipush 16, 2) := by decide +kernel
theorem d_RL_setInt_21 : decode b_RL_setInt 21 = .ok (.iushr, 1) := by decide +kernel
theorem d_RL_setInt_22 : decode b_RL_setInt 22 = .ok (.i2b, 1) := by decide +kernel
theorem d_RL_setInt_23 : decode b_RL_setInt 23 = .ok (.bastore, 1) := by decide +kernel
theorem d_RL_setInt_24 : decode b_RL_setInt 24 = .ok (.aload_n 0, 1) := by decide +kernel
theorem d_RL_setInt_25 : decode b_RL_setInt 25 = .ok (.getfield 11, 3) := by decide +kernel
theorem d_RL_setInt_28 : decode b_RL_setInt 28 = .ok (.iload_n 1, 1) := by decide +kernel
theorem d_RL_setInt_29 : decode b_RL_setInt 29 = .ok (.iconst 2, 1) := by decide +kernel
theorem d_RL_setInt_30 : decode b_RL_setInt 30 = .ok (.iadd, 1) := by decide +kernel
theorem d_RL_setInt_31 : decode b_RL_setInt 31 = .ok (.iload_n 2, 1) := by decide +kernel
theorem d_RL_setInt_32 : decode b_RL_setInt 32 = .ok (.bipush 8, 2) := by decide +kernel
theorem d_RL_setInt_34 : decode b_RL_setInt 34 = .ok (.iushr, 1) := by decide +kernel
theorem d_RL_setInt_35 : decode b_RL_setInt 35 = .ok (.i2b, 1) := by decide +kernel
theorem d_RL_setInt_36 : decode b_RL_setInt 36 = .ok (.bastore, 1) := by decide +kernel
theorem d_RL_setInt_37 : decode b_RL_setInt 37 = .ok (.aload_n 0, 1) := by decide +kernel
theorem d_RL_setInt_38 : decode b_RL_setInt 38 = .ok (.getfield 11, 3) := by decide +kernel
theorem d_RL_setInt_41 : decode b_RL_setInt 41 = .ok (.iload_n 1, 1) := by decide +kernel
theorem d_RL_setInt_42 : decode b_RL_setInt 42 = .ok (.iconst 3, 1) := by decide +kernel
theorem d_RL_setInt_43 : decode b_RL_setInt 43 = .ok (.iadd, 1) := by decide +kernel
theorem d_RL_setInt_44 : decode b_RL_setInt 44 = .ok (.iload_n 2, 1) := by decide +kernel
theorem d_RL_setInt_45 : decode b_RL_setInt 45 = .ok (.i2b, 1) := by decide +kernel
theorem d_RL_setInt_46 : decode b_RL_setInt 46 = .ok (.bastore, 1) := by decide +kernel
theorem d_RL_setInt_47 : decode b_RL_setInt 47 = .ok (.return_, 1) := by decide +kernel
theorem d_RL_intAt_0 : decode b_RL_intAt 0 = .ok (.aload_n 0, 1) := by decide +kernel
theorem d_RL_intAt_1 : decode b_RL_intAt 1 = .ok (.iload_n 1, 1) := by decide +kernel
theorem d_RL_intAt_2 : decode b_RL_intAt 2 = .ok (.baload, 1) := by decide +kernel
theorem d_RL_intAt_3 : decode b_RL_intAt 3 = .ok (.sipush 255, 3) := by decide +kernel
theorem d_RL_intAt_6 : decode b_RL_intAt 6 = .ok (.iand, 1) := by decide +kernel
theorem d_RL_intAt_7 : decode b_RL_intAt 7 = .ok (.bipush 24, 2) := by decide +kernel
theorem d_RL_intAt_9 : decode b_RL_intAt 9 = .ok (.ishl, 1) := by decide +kernel
theorem d_RL_intAt_10 : decode b_RL_intAt 10 = .ok (.aload_n 0, 1) := by decide +kernel
theorem d_RL_intAt_11 : decode b_RL_intAt 11 = .ok (.iload_n 1, 1) := by decide +kernel
theorem d_RL_intAt_12 : decode b_RL_intAt 12 = .ok (.iconst 1, 1) := by decide +kernel
theorem d_RL_intAt_13 : decode b_RL_intAt 13 = .ok (.iadd, 1) := by decide +kernel
theorem d_RL_intAt_14 : decode b_RL_intAt 14 = .ok (.baload, 1) := by decide +kernel
theorem d_RL_intAt_15 : decode b_RL_intAt 15 = .ok (.sipush 255, 3) := by decide +kernel
theorem d_RL_intAt_18 : decode b_RL_intAt 18 = .ok (.iand, 1) := by decide +kernel
theorem d_RL_intAt_19 : decode b_RL_intAt 19 = .ok (.bipush 16, 2) := by decide +kernel
theorem d_RL_intAt_21 : decode b_RL_intAt 21 = .ok (.ishl, 1) := by decide +kernel
theorem d_RL_intAt_22 : decode b_RL_intAt 22 = .ok (.ior, 1) := by decide +kernel
theorem d_RL_intAt_23 : decode b_RL_intAt 23 = .ok (.aload_n 0, 1) := by decide +kernel
theorem d_RL_intAt_24 : decode b_RL_intAt 24 = .ok (.iload_n 1, 1) := by decide +kernel
theorem d_RL_intAt_25 : decode b_RL_intAt 25 = .ok (.iconst 2, 1) := by decide +kernel
theorem d_RL_intAt_26 : decode b_RL_intAt 26 = .ok (.iadd, 1) := by decide +kernel
theorem d_RL_intAt_27 : decode b_RL_intAt 27 = .ok (.baload, 1) := by decide +kernel
theorem d_RL_intAt_28 : decode b_RL_intAt 28 = .ok (.sipush 255, 3) := by decide +kernel
theorem d_RL_intAt_31 : decode b_RL_intAt 31 = .ok (.iand, 1) := by decide +kernel
theorem d_RL_intAt_32 : decode b_RL_intAt 32 = .ok (.bipush 8, 2) := by decide +kernel
theorem d_RL_intAt_34 : decode b_RL_intAt 34 = .ok (.ishl, 1) := by decide +kernel
theorem d_RL_intAt_35 : decode b_RL_intAt 35 = .ok (.ior, 1) := by decide +kernel
theorem d_RL_intAt_36 : decode b_RL_intAt 36 = .ok (.aload_n 0, 1) := by decide +kernel
theorem d_RL_intAt_37 : decode b_RL_intAt 37 = .ok (.iload_n 1, 1) := by decide +kernel
theorem d_RL_intAt_38 : decode b_RL_intAt 38 = .ok (.iconst 3, 1) := by decide +kernel
theorem d_RL_intAt_39 : decode b_RL_intAt 39 = .ok (.iadd, 1) := by decide +kernel
theorem d_RL_intAt_40 : decode b_RL_intAt 40 = .ok (.baload, 1) := by decide +kernel
theorem d_RL_intAt_41 : decode b_RL_intAt 41 = .ok (.sipush 255, 3) := by decide +kernel
theorem d_RL_intAt_44 : decode b_RL_intAt 44 = .ok (.iand, 1) := by decide +kernel
theorem d_RL_intAt_45 : decode b_RL_intAt 45 = .ok (.ior, 1) := by decide +kernel
theorem d_RL_intAt_46 : decode b_RL_intAt 46 = .ok (.ireturn, 1) := by decide +kernel
theorem d_RL_sumOf_0 : decode b_RL_sumOf 0 = .ok (.lconst 0, 1) := by decide +kernel
theorem d_RL_sumOf_1 : decode b_RL_sumOf 1 = .ok (.lstore_n 2, 1) := by decide +kernel
theorem d_RL_sumOf_2 : decode b_RL_sumOf 2 = .ok (.iconst 0, 1) := by decide +kernel
theorem d_RL_sumOf_3 : decode b_RL_sumOf 3 = .ok (.istore 4, 2) := by decide +kernel
theorem d_RL_sumOf_5 : decode b_RL_sumOf 5 = .ok (.iload 4, 2) := by decide +kernel
theorem d_RL_sumOf_7 : decode b_RL_sumOf 7 = .ok (.bipush 56, 2) := by decide +kernel
theorem d_RL_sumOf_9 : decode b_RL_sumOf 9 = .ok (.if_icmp .ge 40, 3) := by decide +kernel
theorem d_RL_sumOf_12 : decode b_RL_sumOf 12 = .ok (.lload_n 2, 1) := by decide +kernel
theorem d_RL_sumOf_13 : decode b_RL_sumOf 13 = .ok (.aload_n 0, 1) := by decide +kernel
theorem d_RL_sumOf_14 : decode b_RL_sumOf 14 = .ok (.iload_n 1, 1) := by decide +kernel
theorem d_RL_sumOf_15 : decode b_RL_sumOf 15 = .ok (.iload 4, 2) := by decide +kernel
theorem d_RL_sumOf_17 : decode b_RL_sumOf 17 = .ok (.iadd, 1) := by decide +kernel
theorem d_RL_sumOf_18 : decode b_RL_sumOf 18 = .ok (.baload, 1) := by decide +kernel
theorem d_RL_sumOf_19 : decode b_RL_sumOf 19 = .ok (.sipush 255, 3) := by decide +kernel
theorem d_RL_sumOf_22 : decode b_RL_sumOf 22 = .ok (.iand, 1) := by decide +kernel
theorem d_RL_sumOf_23 : decode b_RL_sumOf 23 = .ok (.i2l, 1) := by decide +kernel
theorem d_RL_sumOf_24 : decode b_RL_sumOf 24 = .ok (.lxor, 1) := by decide +kernel
theorem d_RL_sumOf_25 : decode b_RL_sumOf 25 = .ok (.lstore 5, 2) := by decide +kernel
theorem d_RL_sumOf_27 : decode b_RL_sumOf 27 = .ok (.lload 5, 2) := by decide +kernel
theorem d_RL_sumOf_29 : decode b_RL_sumOf 29 = .ok (.bipush 47, 2) := by decide +kernel
theorem d_RL_sumOf_31 : decode b_RL_sumOf 31 = .ok (.lshl, 1) := by decide +kernel
theorem d_RL_sumOf_32 : decode b_RL_sumOf 32 = .ok (.lload 5, 2) := by decide +kernel
theorem d_RL_sumOf_34 : decode b_RL_sumOf 34 = .ok (.bipush 17, 2) := by decide +kernel
theorem d_RL_sumOf_36 : decode b_RL_sumOf 36 = .ok (.lushr, 1) := by decide +kernel
theorem d_RL_sumOf_37 : decode b_RL_sumOf 37 = .ok (.lor, 1) := by decide +kernel
theorem d_RL_sumOf_38 : decode b_RL_sumOf 38 = .ok (.ldc2_w 116, 3) := by decide +kernel
theorem d_RL_sumOf_41 : decode b_RL_sumOf 41 = .ok (.lmul, 1) := by decide +kernel
theorem d_RL_sumOf_42 : decode b_RL_sumOf 42 = .ok (.lstore_n 2, 1) := by decide +kernel
theorem d_RL_sumOf_43 : decode b_RL_sumOf 43 = .ok (.iinc 4 1, 3) := by decide +kernel
theorem d_RL_sumOf_46 : decode b_RL_sumOf 46 = .ok (.goto (-41), 3) := by decide +kernel
theorem d_RL_sumOf_49 : decode b_RL_sumOf 49 = .ok (.lload_n 2, 1) := by decide +kernel
theorem d_RL_sumOf_50 : decode b_RL_sumOf 50 = .ok (.lreturn, 1) := by decide +kernel
theorem d_SH_init_0 : decode b_SH_init 0 = .ok (.aload_n 0, 1) := by decide +kernel
theorem d_SH_init_1 : decode b_SH_init 1 = .ok (.invokespecial 3, 3) := by decide +kernel
theorem d_SH_init_4 : decode b_SH_init 4 = .ok (.aload_n 0, 1) := by decide +kernel
theorem d_SH_init_5 : decode b_SH_init 5 = .ok (.sipush 200, 3) := by decide +kernel
theorem d_SH_init_8 : decode b_SH_init 8 = .ok (.newarray .int, 2) := by decide +kernel
theorem d_SH_init_10 : decode b_SH_init 10 = .ok (.putfield 11, 3) := by decide +kernel
theorem d_SH_init_13 : decode b_SH_init 13 = .ok (.aload_n 0, 1) := by decide +kernel
theorem d_SH_init_14 : decode b_SH_init 14 = .ok (.sipush 200, 3) := by decide +kernel
theorem d_SH_init_17 : decode b_SH_init 17 = .ok (.newarray .int, 2) := by decide +kernel
theorem d_SH_init_19 : decode b_SH_init 19 = .ok (.putfield 17, 3) := by decide +kernel
theorem d_SH_init_22 : decode b_SH_init 22 = .ok (.return_, 1) := by decide +kernel
theorem d_SH_size_0 : decode b_SH_size 0 = .ok (.aload_n 0, 1) := by decide +kernel
theorem d_SH_size_1 : decode b_SH_size 1 = .ok (.getfield 20, 3) := by decide +kernel
theorem d_SH_size_4 : decode b_SH_size 4 = .ok (.ireturn, 1) := by decide +kernel
theorem d_SH_newest_0 : decode b_SH_newest 0 = .ok (.aload_n 0, 1) := by decide +kernel
theorem d_SH_newest_1 : decode b_SH_newest 1 = .ok (.getfield 20, 3) := by decide +kernel
theorem d_SH_newest_4 : decode b_SH_newest 4 = .ok (.ifCond .ne 7, 3) := by decide +kernel
theorem d_SH_newest_7 : decode b_SH_newest 7 = .ok (.iconst 0, 1) := by decide +kernel
theorem d_SH_newest_8 : decode b_SH_newest 8 = .ok (.goto 14, 3) := by decide +kernel
theorem d_SH_newest_11 : decode b_SH_newest 11 = .ok (.aload_n 0, 1) := by decide +kernel
theorem d_SH_newest_12 : decode b_SH_newest 12 = .ok (.getfield 11, 3) := by decide +kernel
theorem d_SH_newest_15 : decode b_SH_newest 15 = .ok (.aload_n 0, 1) := by decide +kernel
theorem d_SH_newest_16 : decode b_SH_newest 16 = .ok (.getfield 20, 3) := by decide +kernel
theorem d_SH_newest_19 : decode b_SH_newest 19 = .ok (.iconst 1, 1) := by decide +kernel
theorem d_SH_newest_20 : decode b_SH_newest 20 = .ok (.isub, 1) := by decide +kernel
theorem d_SH_newest_21 : decode b_SH_newest 21 = .ok (.iaload, 1) := by decide +kernel
theorem d_SH_newest_22 : decode b_SH_newest 22 = .ok (.ireturn, 1) := by decide +kernel
theorem d_SH_newestRoot_0 : decode b_SH_newestRoot 0 = .ok (.aload_n 0, 1) := by decide +kernel
theorem d_SH_newestRoot_1 : decode b_SH_newestRoot 1 = .ok (.getfield 20, 3) := by decide +kernel
theorem d_SH_newestRoot_4 : decode b_SH_newestRoot 4 = .ok (.ifCond .ne 7, 3) := by decide +kernel
theorem d_SH_newestRoot_7 : decode b_SH_newestRoot 7 = .ok (.iconst (-1), 1) := by decide +kernel
theorem d_SH_newestRoot_8 : decode b_SH_newestRoot 8 = .ok (.goto 14, 3) := by decide +kernel
theorem d_SH_newestRoot_11 : decode b_SH_newestRoot 11 = .ok (.aload_n 0, 1) := by decide +kernel
theorem d_SH_newestRoot_12 : decode b_SH_newestRoot 12 = .ok (.getfield 17, 3) := by decide +kernel
theorem d_SH_newestRoot_15 : decode b_SH_newestRoot 15 = .ok (.aload_n 0, 1) := by decide +kernel
theorem d_SH_newestRoot_16 : decode b_SH_newestRoot 16 = .ok (.getfield 20, 3) := by decide +kernel
theorem d_SH_newestRoot_19 : decode b_SH_newestRoot 19 = .ok (.iconst 1, 1) := by decide +kernel
theorem d_SH_newestRoot_20 : decode b_SH_newestRoot 20 = .ok (.isub, 1) := by decide +kernel
theorem d_SH_newestRoot_21 : decode b_SH_newestRoot 21 = .ok (.iaload, 1) := by decide +kernel
theorem d_SH_newestRoot_22 : decode b_SH_newestRoot 22 = .ok (.ireturn, 1) := by decide +kernel
theorem d_SH_versionFromNewest_0 : decode b_SH_versionFromNewest 0 = .ok (.iload_n 1, 1) := by decide +kernel
theorem d_SH_versionFromNewest_1 : decode b_SH_versionFromNewest 1 = .ok (.ifCond .lt 27, 3) := by decide +kernel
theorem d_SH_versionFromNewest_4 : decode b_SH_versionFromNewest 4 = .ok (.iload_n 1, 1) := by decide +kernel
theorem d_SH_versionFromNewest_5 : decode b_SH_versionFromNewest 5 = .ok (.aload_n 0, 1) := by decide +kernel
theorem d_SH_versionFromNewest_6 : decode b_SH_versionFromNewest 6 = .ok (.getfield 20, 3) := by decide +kernel
theorem d_SH_versionFromNewest_9 : decode b_SH_versionFromNewest 9 = .ok (.if_icmp .ge 19, 3) := by decide +kernel
theorem d_SH_versionFromNewest_12 : decode b_SH_versionFromNewest 12 = .ok (.aload_n 0, 1) := by decide +kernel
theorem d_SH_versionFromNewest_13 : decode b_SH_versionFromNewest 13 = .ok (.getfield 11, 3) := by decide +kernel
theorem d_SH_versionFromNewest_16 : decode b_SH_versionFromNewest 16 = .ok (.aload_n 0, 1) := by decide +kernel
theorem d_SH_versionFromNewest_17 : decode b_SH_versionFromNewest 17 = .ok (.getfield 20, 3) := by decide +kernel
theorem d_SH_versionFromNewest_20 : decode b_SH_versionFromNewest 20 = .ok (.iconst 1, 1) := by decide +kernel
theorem d_SH_versionFromNewest_21 : decode b_SH_versionFromNewest 21 = .ok (.isub, 1) := by decide +kernel
theorem d_SH_versionFromNewest_22 : decode b_SH_versionFromNewest 22 = .ok (.iload_n 1, 1) := by decide +kernel
theorem d_SH_versionFromNewest_23 : decode b_SH_versionFromNewest 23 = .ok (.isub, 1) := by decide +kernel
theorem d_SH_versionFromNewest_24 : decode b_SH_versionFromNewest 24 = .ok (.iaload, 1) := by decide +kernel
theorem d_SH_versionFromNewest_25 : decode b_SH_versionFromNewest 25 = .ok (.goto 4, 3) := by decide +kernel
theorem d_SH_versionFromNewest_28 : decode b_SH_versionFromNewest 28 = .ok (.iconst (-1), 1) := by decide +kernel
theorem d_SH_versionFromNewest_29 : decode b_SH_versionFromNewest 29 = .ok (.ireturn, 1) := by decide +kernel
theorem d_SH_rootOf_0 : decode b_SH_rootOf 0 = .ok (.iconst 0, 1) := by decide +kernel
theorem d_SH_rootOf_1 : decode b_SH_rootOf 1 = .ok (.istore_n 2, 1) := by decide +kernel
theorem d_SH_rootOf_2 : decode b_SH_rootOf 2 = .ok (.iload_n 2, 1) := by decide +kernel
theorem d_SH_rootOf_3 : decode b_SH_rootOf 3 = .ok (.aload_n 0, 1) := by decide +kernel
theorem d_SH_rootOf_4 : decode b_SH_rootOf 4 = .ok (.getfield 20, 3) := by decide +kernel
theorem d_SH_rootOf_7 : decode b_SH_rootOf 7 = .ok (.if_icmp .ge 26, 3) := by decide +kernel
theorem d_SH_rootOf_10 : decode b_SH_rootOf 10 = .ok (.aload_n 0, 1) := by decide +kernel
theorem d_SH_rootOf_11 : decode b_SH_rootOf 11 = .ok (.getfield 11, 3) := by decide +kernel
theorem d_SH_rootOf_14 : decode b_SH_rootOf 14 = .ok (.iload_n 2, 1) := by decide +kernel
theorem d_SH_rootOf_15 : decode b_SH_rootOf 15 = .ok (.iaload, 1) := by decide +kernel
theorem d_SH_rootOf_16 : decode b_SH_rootOf 16 = .ok (.iload_n 1, 1) := by decide +kernel
theorem d_SH_rootOf_17 : decode b_SH_rootOf 17 = .ok (.if_icmp .ne 10, 3) := by decide +kernel
theorem d_SH_rootOf_20 : decode b_SH_rootOf 20 = .ok (.aload_n 0, 1) := by decide +kernel
theorem d_SH_rootOf_21 : decode b_SH_rootOf 21 = .ok (.getfield 17, 3) := by decide +kernel
theorem d_SH_rootOf_24 : decode b_SH_rootOf 24 = .ok (.iload_n 2, 1) := by decide +kernel
theorem d_SH_rootOf_25 : decode b_SH_rootOf 25 = .ok (.iaload, 1) := by decide +kernel
theorem d_SH_rootOf_26 : decode b_SH_rootOf 26 = .ok (.ireturn, 1) := by decide +kernel
theorem d_SH_rootOf_27 : decode b_SH_rootOf 27 = .ok (.iinc 2 1, 3) := by decide +kernel
theorem d_SH_rootOf_30 : decode b_SH_rootOf 30 = .ok (.goto (-28), 3) := by decide +kernel
theorem d_SH_rootOf_33 : decode b_SH_rootOf 33 = .ok (.iconst (-1), 1) := by decide +kernel
theorem d_SH_rootOf_34 : decode b_SH_rootOf 34 = .ok (.ireturn, 1) := by decide +kernel
theorem d_SH_clear_0 : decode b_SH_clear 0 = .ok (.aload_n 0, 1) := by decide +kernel
theorem d_SH_clear_1 : decode b_SH_clear 1 = .ok (.iconst 0, 1) := by decide +kernel
theorem d_SH_clear_2 : decode b_SH_clear 2 = .ok (.putfield 20, 3) := by decide +kernel
theorem d_SH_clear_5 : decode b_SH_clear 5 = .ok (.return_, 1) := by decide +kernel
theorem d_SH_add_0 : decode b_SH_add 0 = .ok (.aload_n 0, 1) := by decide +kernel
theorem d_SH_add_1 : decode b_SH_add 1 = .ok (.getfield 20, 3) := by decide +kernel
theorem d_SH_add_4 : decode b_SH_add 4 = .ok (.istore_n 3, 1) := by decide +kernel
theorem d_SH_add_5 : decode b_SH_add 5 = .ok (.iload_n 3, 1) := by decide +kernel
theorem d_SH_add_6 : decode b_SH_add 6 = .ok (.ifCond .le 21, 3) := by decide +kernel
theorem d_SH_add_9 : decode b_SH_add 9 = .ok (.aload_n 0, 1) := by decide +kernel
theorem d_SH_add_10 : decode b_SH_add 10 = .ok (.getfield 11, 3) := by decide +kernel
theorem d_SH_add_13 : decode b_SH_add 13 = .ok (.iload_n 3, 1) := by decide +kernel
theorem d_SH_add_14 : decode b_SH_add 14 = .ok (.iconst 1, 1) := by decide +kernel
theorem d_SH_add_15 : decode b_SH_add 15 = .ok (.isub, 1) := by decide +kernel
theorem d_SH_add_16 : decode b_SH_add 16 = .ok (.iaload, 1) := by decide +kernel
theorem d_SH_add_17 : decode b_SH_add 17 = .ok (.iload_n 1, 1) := by decide +kernel
theorem d_SH_add_18 : decode b_SH_add 18 = .ok (.if_icmp .le 9, 3) := by decide +kernel
theorem d_SH_add_21 : decode b_SH_add 21 = .ok (.iinc 3 (-1), 3) := by decide +kernel
theorem d_SH_add_24 : decode b_SH_add 24 = .ok (.goto (-19), 3) := by decide +kernel
theorem d_SH_add_27 : decode b_SH_add 27 = .ok (.iload_n 3, 1) := by decide +kernel
theorem d_SH_add_28 : decode b_SH_add 28 = .ok (.ifCond .le 38, 3) := by decide +kernel
theorem d_SH_add_31 : decode b_SH_add 31 = .ok (.aload_n 0, 1) := by decide +kernel
theorem d_SH_add_32 : decode b_SH_add 32 = .ok (.getfield 11, 3) := by decide +kernel
theorem d_SH_add_35 : decode b_SH_add 35 = .ok (.iload_n 3, 1) := by decide +kernel
theorem d_SH_add_36 : decode b_SH_add 36 = .ok (.iconst 1, 1) := by decide +kernel
theorem d_SH_add_37 : decode b_SH_add 37 = .ok (.isub, 1) := by decide +kernel
theorem d_SH_add_38 : decode b_SH_add 38 = .ok (.iaload, 1) := by decide +kernel
theorem d_SH_add_39 : decode b_SH_add 39 = .ok (.iload_n 1, 1) := by decide +kernel
theorem d_SH_add_40 : decode b_SH_add 40 = .ok (.if_icmp .ne 26, 3) := by decide +kernel
theorem d_SH_add_43 : decode b_SH_add 43 = .ok (.aload_n 0, 1) := by decide +kernel
theorem d_SH_add_44 : decode b_SH_add 44 = .ok (.getfield 17, 3) := by decide +kernel
theorem d_SH_add_47 : decode b_SH_add 47 = .ok (.iload_n 3, 1) := by decide +kernel
theorem d_SH_add_48 : decode b_SH_add 48 = .ok (.iconst 1, 1) := by decide +kernel
theorem d_SH_add_49 : decode b_SH_add 49 = .ok (.isub, 1) := by decide +kernel
theorem d_SH_add_50 : decode b_SH_add 50 = .ok (.aload_n 0, 1) := by decide +kernel
theorem d_SH_add_51 : decode b_SH_add 51 = .ok (.getfield 17, 3) := by decide +kernel
theorem d_SH_add_54 : decode b_SH_add 54 = .ok (.iload_n 3, 1) := by decide +kernel
theorem d_SH_add_55 : decode b_SH_add 55 = .ok (.iconst 1, 1) := by decide +kernel
theorem d_SH_add_56 : decode b_SH_add 56 = .ok (.isub, 1) := by decide +kernel
theorem d_SH_add_57 : decode b_SH_add 57 = .ok (.iaload, 1) := by decide +kernel
theorem d_SH_add_58 : decode b_SH_add 58 = .ok (.iload_n 2, 1) := by decide +kernel
theorem d_SH_add_59 : decode b_SH_add 59 = .ok (.invokestatic 24, 3) := by decide +kernel
theorem d_SH_add_62 : decode b_SH_add 62 = .ok (.iastore, 1) := by decide +kernel
theorem d_SH_add_63 : decode b_SH_add 63 = .ok (.goto 22, 3) := by decide +kernel
theorem d_SH_add_66 : decode b_SH_add 66 = .ok (.aload_n 0, 1) := by decide +kernel
theorem d_SH_add_67 : decode b_SH_add 67 = .ok (.getfield 20, 3) := by decide +kernel
theorem d_SH_add_70 : decode b_SH_add 70 = .ok (.aload_n 0, 1) := by decide +kernel
theorem d_SH_add_71 : decode b_SH_add 71 = .ok (.getfield 11, 3) := by decide +kernel
theorem d_SH_add_74 : decode b_SH_add 74 = .ok (.arraylength, 1) := by decide +kernel
theorem d_SH_add_75 : decode b_SH_add 75 = .ok (.if_icmp .ge 10, 3) := by decide +kernel
theorem d_SH_add_78 : decode b_SH_add 78 = .ok (.aload_n 0, 1) := by decide +kernel
theorem d_SH_add_79 : decode b_SH_add 79 = .ok (.iload_n 3, 1) := by decide +kernel
theorem d_SH_add_80 : decode b_SH_add 80 = .ok (.iload_n 1, 1) := by decide +kernel
theorem d_SH_add_81 : decode b_SH_add 81 = .ok (.iload_n 2, 1) := by decide +kernel
theorem d_SH_add_82 : decode b_SH_add 82 = .ok (.invokevirtual 30, 3) := by decide +kernel
theorem d_SH_add_85 : decode b_SH_add 85 = .ok (.return_, 1) := by decide +kernel
theorem d_SH_insert_0 : decode b_SH_insert 0 = .ok (.aload_n 0, 1) := by decide +kernel
theorem d_SH_insert_1 : decode b_SH_insert 1 = .ok (.getfield 20, 3) := by decide +kernel
theorem d_SH_insert_4 : decode b_SH_insert 4 = .ok (.istore 4, 2) := by decide +kernel
theorem d_SH_insert_6 : decode b_SH_insert 6 = .ok (.iload 4, 2) := by decide +kernel
theorem d_SH_insert_8 : decode b_SH_insert 8 = .ok (.iload_n 1, 1) := by decide +kernel
theorem d_SH_insert_9 : decode b_SH_insert 9 = .ok (.if_icmp .le 41, 3) := by decide +kernel
theorem d_SH_insert_12 : decode b_SH_insert 12 = .ok (.aload_n 0, 1) := by decide +kernel
theorem d_SH_insert_13 : decode b_SH_insert 13 = .ok (.getfield 11, 3) := by decide +kernel
theorem d_SH_insert_16 : decode b_SH_insert 16 = .ok (.iload 4, 2) := by decide +kernel
theorem d_SH_insert_18 : decode b_SH_insert 18 = .ok (.aload_n 0, 1) := by decide +kernel
theorem d_SH_insert_19 : decode b_SH_insert 19 = .ok (.getfield 11, 3) := by decide +kernel
theorem d_SH_insert_22 : decode b_SH_insert 22 = .ok (.iload 4, 2) := by decide +kernel
theorem d_SH_insert_24 : decode b_SH_insert 24 = .ok (.iconst 1, 1) := by decide +kernel
theorem d_SH_insert_25 : decode b_SH_insert 25 = .ok (.isub, 1) := by decide +kernel
theorem d_SH_insert_26 : decode b_SH_insert 26 = .ok (.iaload, 1) := by decide +kernel
theorem d_SH_insert_27 : decode b_SH_insert 27 = .ok (.iastore, 1) := by decide +kernel
theorem d_SH_insert_28 : decode b_SH_insert 28 = .ok (.aload_n 0, 1) := by decide +kernel
theorem d_SH_insert_29 : decode b_SH_insert 29 = .ok (.getfield 17, 3) := by decide +kernel
theorem d_SH_insert_32 : decode b_SH_insert 32 = .ok (.iload 4, 2) := by decide +kernel
theorem d_SH_insert_34 : decode b_SH_insert 34 = .ok (.aload_n 0, 1) := by decide +kernel
theorem d_SH_insert_35 : decode b_SH_insert 35 = .ok (.getfield 17, 3) := by decide +kernel
theorem d_SH_insert_38 : decode b_SH_insert 38 = .ok (.iload 4, 2) := by decide +kernel
theorem d_SH_insert_40 : decode b_SH_insert 40 = .ok (.iconst 1, 1) := by decide +kernel
theorem d_SH_insert_41 : decode b_SH_insert 41 = .ok (.isub, 1) := by decide +kernel
theorem d_SH_insert_42 : decode b_SH_insert 42 = .ok (.iaload, 1) := by decide +kernel
theorem d_SH_insert_43 : decode b_SH_insert 43 = .ok (.iastore, 1) := by decide +kernel
theorem d_SH_insert_44 : decode b_SH_insert 44 = .ok (.iinc 4 (-1), 3) := by decide +kernel
theorem d_SH_insert_47 : decode b_SH_insert 47 = .ok (.goto (-41), 3) := by decide +kernel
theorem d_SH_insert_50 : decode b_SH_insert 50 = .ok (.aload_n 0, 1) := by decide +kernel
theorem d_SH_insert_51 : decode b_SH_insert 51 = .ok (.getfield 11, 3) := by decide +kernel
theorem d_SH_insert_54 : decode b_SH_insert 54 = .ok (.iload_n 1, 1) := by decide +kernel
theorem d_SH_insert_55 : decode b_SH_insert 55 = .ok (.iload_n 2, 1) := by decide +kernel
theorem d_SH_insert_56 : decode b_SH_insert 56 = .ok (.iastore, 1) := by decide +kernel
theorem d_SH_insert_57 : decode b_SH_insert 57 = .ok (.aload_n 0, 1) := by decide +kernel
theorem d_SH_insert_58 : decode b_SH_insert 58 = .ok (.getfield 17, 3) := by decide +kernel
theorem d_SH_insert_61 : decode b_SH_insert 61 = .ok (.iload_n 1, 1) := by decide +kernel
theorem d_SH_insert_62 : decode b_SH_insert 62 = .ok (.iload_n 3, 1) := by decide +kernel
theorem d_SH_insert_63 : decode b_SH_insert 63 = .ok (.iastore, 1) := by decide +kernel
theorem d_SH_insert_64 : decode b_SH_insert 64 = .ok (.aload_n 0, 1) := by decide +kernel
theorem d_SH_insert_65 : decode b_SH_insert 65 = .ok (.dup, 1) := by decide +kernel
theorem d_SH_insert_66 : decode b_SH_insert 66 = .ok (.getfield 20, 3) := by decide +kernel
theorem d_SH_insert_69 : decode b_SH_insert 69 = .ok (.iconst 1, 1) := by decide +kernel
theorem d_SH_insert_70 : decode b_SH_insert 70 = .ok (.iadd, 1) := by decide +kernel
theorem d_SH_insert_71 : decode b_SH_insert 71 = .ok (.putfield 20, 3) := by decide +kernel
theorem d_SH_insert_74 : decode b_SH_insert 74 = .ok (.return_, 1) := by decide +kernel
theorem d_LA_cell_0 : decode b_LA_cell 0 = .ok (.iload_n 1, 1) := by decide +kernel
theorem d_LA_cell_1 : decode b_LA_cell 1 = .ok (.aload_n 0, 1) := by decide +kernel
theorem d_LA_cell_2 : decode b_LA_cell 2 = .ok (.arraylength, 1) := by decide +kernel
theorem d_LA_cell_3 : decode b_LA_cell 3 = .ok (.if_icmp .ge 9, 3) := by decide +kernel
theorem d_LA_cell_6 : decode b_LA_cell 6 = .ok (.aload_n 0, 1) := by decide +kernel
theorem d_LA_cell_7 : decode b_LA_cell 7 = .ok (.iload_n 1, 1) := by decide +kernel
theorem d_LA_cell_8 : decode b_LA_cell 8 = .ok (.iaload, 1) := by decide +kernel
theorem d_LA_cell_9 : decode b_LA_cell 9 = .ok (.goto 4, 3) := by decide +kernel
theorem d_LA_cell_12 : decode b_LA_cell 12 = .ok (.iconst 0, 1) := by decide +kernel
theorem d_LA_cell_13 : decode b_LA_cell 13 = .ok (.ireturn, 1) := by decide +kernel
theorem d_LA_put_0 : decode b_LA_put 0 = .ok (.aload_n 3, 1) := by decide +kernel
theorem d_LA_put_1 : decode b_LA_put 1 = .ok (.iconst 0, 1) := by decide +kernel
theorem d_LA_put_2 : decode b_LA_put 2 = .ok (.aload_n 0, 1) := by decide +kernel
theorem d_LA_put_3 : decode b_LA_put 3 = .ok (.iload_n 1, 1) := by decide +kernel
theorem d_LA_put_4 : decode b_LA_put 4 = .ok (.iload_n 2, 1) := by decide +kernel
theorem d_LA_put_5 : decode b_LA_put 5 = .ok (.invokevirtual 7, 3) := by decide +kernel
theorem d_LA_put_8 : decode b_LA_put 8 = .ok (.i2l, 1) := by decide +kernel
theorem d_LA_put_9 : decode b_LA_put 9 = .ok (.lastore, 1) := by decide +kernel
theorem d_LA_put_10 : decode b_LA_put 10 = .ok (.goto 11, 3) := by decide +kernel
theorem d_LA_put_13 : decode b_LA_put 13 = .ok (.astore 4, 2) := by decide +kernel
theorem d_LA_put_15 : decode b_LA_put 15 = .ok (.iconst 1, 1) := by decide +kernel
theorem d_LA_put_16 : decode b_LA_put 16 = .ok (.ireturn, 1) := by decide +kernel
theorem d_LA_put_17 : decode b_LA_put 17 = .ok (.astore 4, 2) := by decide +kernel
theorem d_LA_put_19 : decode b_LA_put 19 = .ok (.iconst 2, 1) := by decide +kernel
theorem d_LA_put_20 : decode b_LA_put 20 = .ok (.ireturn, 1) := by decide +kernel
theorem d_LA_put_21 : decode b_LA_put 21 = .ok (.iconst 0, 1) := by decide +kernel
theorem d_LA_put_22 : decode b_LA_put 22 = .ok (.ireturn, 1) := by decide +kernel
theorem d_LA_drop_0 : decode b_LA_drop 0 = .ok (.aload_n 2, 1) := by decide +kernel
theorem d_LA_drop_1 : decode b_LA_drop 1 = .ok (.iconst 0, 1) := by decide +kernel
theorem d_LA_drop_2 : decode b_LA_drop 2 = .ok (.aload_n 0, 1) := by decide +kernel
theorem d_LA_drop_3 : decode b_LA_drop 3 = .ok (.iload_n 1, 1) := by decide +kernel
theorem d_LA_drop_4 : decode b_LA_drop 4 = .ok (.invokevirtual 17, 3) := by decide +kernel
theorem d_LA_drop_7 : decode b_LA_drop 7 = .ok (.i2l, 1) := by decide +kernel
theorem d_LA_drop_8 : decode b_LA_drop 8 = .ok (.lastore, 1) := by decide +kernel
theorem d_LA_drop_9 : decode b_LA_drop 9 = .ok (.goto 9, 3) := by decide +kernel
theorem d_LA_drop_12 : decode b_LA_drop 12 = .ok (.astore_n 3, 1) := by decide +kernel
theorem d_LA_drop_13 : decode b_LA_drop 13 = .ok (.iconst 1, 1) := by decide +kernel
theorem d_LA_drop_14 : decode b_LA_drop 14 = .ok (.ireturn, 1) := by decide +kernel
theorem d_LA_drop_15 : decode b_LA_drop 15 = .ok (.astore_n 3, 1) := by decide +kernel
theorem d_LA_drop_16 : decode b_LA_drop 16 = .ok (.iconst 2, 1) := by decide +kernel
theorem d_LA_drop_17 : decode b_LA_drop 17 = .ok (.ireturn, 1) := by decide +kernel
theorem d_LA_drop_18 : decode b_LA_drop 18 = .ok (.iconst 0, 1) := by decide +kernel
theorem d_LA_drop_19 : decode b_LA_drop 19 = .ok (.ireturn, 1) := by decide +kernel
theorem d_LA_undo_0 : decode b_LA_undo 0 = .ok (.aload_n 1, 1) := by decide +kernel
theorem d_LA_undo_1 : decode b_LA_undo 1 = .ok (.iconst 0, 1) := by decide +kernel
theorem d_LA_undo_2 : decode b_LA_undo 2 = .ok (.aload_n 0, 1) := by decide +kernel
theorem d_LA_undo_3 : decode b_LA_undo 3 = .ok (.invokevirtual 21, 3) := by decide +kernel
theorem d_LA_undo_6 : decode b_LA_undo 6 = .ok (.i2l, 1) := by decide +kernel
theorem d_LA_undo_7 : decode b_LA_undo 7 = .ok (.lastore, 1) := by decide +kernel
theorem d_LA_undo_8 : decode b_LA_undo 8 = .ok (.goto 6, 3) := by decide +kernel
theorem d_LA_undo_11 : decode b_LA_undo 11 = .ok (.astore_n 2, 1) := by decide +kernel
theorem d_LA_undo_12 : decode b_LA_undo 12 = .ok (.iconst 1, 1) := by decide +kernel
theorem d_LA_undo_13 : decode b_LA_undo 13 = .ok (.ireturn, 1) := by decide +kernel
theorem d_LA_undo_14 : decode b_LA_undo 14 = .ok (.iconst 0, 1) := by decide +kernel
theorem d_LA_undo_15 : decode b_LA_undo 15 = .ok (.ireturn, 1) := by decide +kernel
theorem d_LA_get_0 : decode b_LA_get 0 = .ok (.aload_n 2, 1) := by decide +kernel
theorem d_LA_get_1 : decode b_LA_get 1 = .ok (.iconst 0, 1) := by decide +kernel
theorem d_LA_get_2 : decode b_LA_get 2 = .ok (.aload_n 0, 1) := by decide +kernel
theorem d_LA_get_3 : decode b_LA_get 3 = .ok (.iload_n 1, 1) := by decide +kernel
theorem d_LA_get_4 : decode b_LA_get 4 = .ok (.invokevirtual 25, 3) := by decide +kernel
theorem d_LA_get_7 : decode b_LA_get 7 = .ok (.lastore, 1) := by decide +kernel
theorem d_LA_get_8 : decode b_LA_get 8 = .ok (.goto 9, 3) := by decide +kernel
theorem d_LA_get_11 : decode b_LA_get 11 = .ok (.astore_n 3, 1) := by decide +kernel
theorem d_LA_get_12 : decode b_LA_get 12 = .ok (.iconst 1, 1) := by decide +kernel
theorem d_LA_get_13 : decode b_LA_get 13 = .ok (.ireturn, 1) := by decide +kernel
theorem d_LA_get_14 : decode b_LA_get 14 = .ok (.astore_n 3, 1) := by decide +kernel
theorem d_LA_get_15 : decode b_LA_get 15 = .ok (.iconst 2, 1) := by decide +kernel
theorem d_LA_get_16 : decode b_LA_get 16 = .ok (.ireturn, 1) := by decide +kernel
theorem d_LA_get_17 : decode b_LA_get 17 = .ok (.iconst 0, 1) := by decide +kernel
theorem d_LA_get_18 : decode b_LA_get 18 = .ok (.ireturn, 1) := by decide +kernel
theorem d_LA_commit_0 : decode b_LA_commit 0 = .ok (.aload_n 1, 1) := by decide +kernel
theorem d_LA_commit_1 : decode b_LA_commit 1 = .ok (.iconst 0, 1) := by decide +kernel
theorem d_LA_commit_2 : decode b_LA_commit 2 = .ok (.aload_n 0, 1) := by decide +kernel
theorem d_LA_commit_3 : decode b_LA_commit 3 = .ok (.invokevirtual 29, 3) := by decide +kernel
theorem d_LA_commit_6 : decode b_LA_commit 6 = .ok (.i2l, 1) := by decide +kernel
theorem d_LA_commit_7 : decode b_LA_commit 7 = .ok (.lastore, 1) := by decide +kernel
theorem d_LA_commit_8 : decode b_LA_commit 8 = .ok (.goto 6, 3) := by decide +kernel
theorem d_LA_commit_11 : decode b_LA_commit 11 = .ok (.astore_n 2, 1) := by decide +kernel
theorem d_LA_commit_12 : decode b_LA_commit 12 = .ok (.iconst 1, 1) := by decide +kernel
theorem d_LA_commit_13 : decode b_LA_commit 13 = .ok (.ireturn, 1) := by decide +kernel
theorem d_LA_commit_14 : decode b_LA_commit 14 = .ok (.iconst 0, 1) := by decide +kernel
theorem d_LA_commit_15 : decode b_LA_commit 15 = .ok (.ireturn, 1) := by decide +kernel
theorem d_LA_copy_0 : decode b_LA_copy 0 = .ok (.aload_n 1, 1) := by decide +kernel
theorem d_LA_copy_1 : decode b_LA_copy 1 = .ok (.iconst 0, 1) := by decide +kernel
theorem d_LA_copy_2 : decode b_LA_copy 2 = .ok (.aload_n 0, 1) := by decide +kernel
theorem d_LA_copy_3 : decode b_LA_copy 3 = .ok (.invokevirtual 32, 3) := by decide +kernel
theorem d_LA_copy_6 : decode b_LA_copy 6 = .ok (.i2l, 1) := by decide +kernel
theorem d_LA_copy_7 : decode b_LA_copy 7 = .ok (.lastore, 1) := by decide +kernel
theorem d_LA_copy_8 : decode b_LA_copy 8 = .ok (.goto 6, 3) := by decide +kernel
theorem d_LA_copy_11 : decode b_LA_copy 11 = .ok (.astore_n 2, 1) := by decide +kernel
theorem d_LA_copy_12 : decode b_LA_copy 12 = .ok (.iconst 1, 1) := by decide +kernel
theorem d_LA_copy_13 : decode b_LA_copy 13 = .ok (.ireturn, 1) := by decide +kernel
theorem d_LA_copy_14 : decode b_LA_copy 14 = .ok (.iconst 0, 1) := by decide +kernel
theorem d_LA_copy_15 : decode b_LA_copy 15 = .ok (.ireturn, 1) := by decide +kernel
theorem d_LA_find_0 : decode b_LA_find 0 = .ok (.aload_n 3, 1) := by decide +kernel
theorem d_LA_find_1 : decode b_LA_find 1 = .ok (.iconst 0, 1) := by decide +kernel
theorem d_LA_find_2 : decode b_LA_find 2 = .ok (.aload_n 0, 1) := by decide +kernel
theorem d_LA_find_3 : decode b_LA_find 3 = .ok (.iload_n 1, 1) := by decide +kernel
theorem d_LA_find_4 : decode b_LA_find 4 = .ok (.iload_n 2, 1) := by decide +kernel
theorem d_LA_find_5 : decode b_LA_find 5 = .ok (.invokevirtual 35, 3) := by decide +kernel
theorem d_LA_find_8 : decode b_LA_find 8 = .ok (.lastore, 1) := by decide +kernel
theorem d_LA_find_9 : decode b_LA_find 9 = .ok (.goto 11, 3) := by decide +kernel
theorem d_LA_find_12 : decode b_LA_find 12 = .ok (.astore 4, 2) := by decide +kernel
theorem d_LA_find_14 : decode b_LA_find 14 = .ok (.iconst 1, 1) := by decide +kernel
theorem d_LA_find_15 : decode b_LA_find 15 = .ok (.ireturn, 1) := by decide +kernel
theorem d_LA_find_16 : decode b_LA_find 16 = .ok (.astore 4, 2) := by decide +kernel
theorem d_LA_find_18 : decode b_LA_find 18 = .ok (.iconst 2, 1) := by decide +kernel
theorem d_LA_find_19 : decode b_LA_find 19 = .ok (.ireturn, 1) := by decide +kernel
theorem d_LA_find_20 : decode b_LA_find 20 = .ok (.iconst 0, 1) := by decide +kernel
theorem d_LA_find_21 : decode b_LA_find 21 = .ok (.ireturn, 1) := by decide +kernel
theorem d_LA_next_0 : decode b_LA_next 0 = .ok (.aload_n 3, 1) := by decide +kernel
theorem d_LA_next_1 : decode b_LA_next 1 = .ok (.iconst 0, 1) := by decide +kernel
theorem d_LA_next_2 : decode b_LA_next 2 = .ok (.aload_n 0, 1) := by decide +kernel
theorem d_LA_next_3 : decode b_LA_next 3 = .ok (.iload_n 1, 1) := by decide +kernel
theorem d_LA_next_4 : decode b_LA_next 4 = .ok (.iload_n 2, 1) := by decide +kernel
theorem d_LA_next_5 : decode b_LA_next 5 = .ok (.invokevirtual 39, 3) := by decide +kernel
theorem d_LA_next_8 : decode b_LA_next 8 = .ok (.i2l, 1) := by decide +kernel
theorem d_LA_next_9 : decode b_LA_next 9 = .ok (.lastore, 1) := by decide +kernel
theorem d_LA_next_10 : decode b_LA_next 10 = .ok (.goto 11, 3) := by decide +kernel
theorem d_LA_next_13 : decode b_LA_next 13 = .ok (.astore 4, 2) := by decide +kernel
theorem d_LA_next_15 : decode b_LA_next 15 = .ok (.iconst 1, 1) := by decide +kernel
theorem d_LA_next_16 : decode b_LA_next 16 = .ok (.ireturn, 1) := by decide +kernel
theorem d_LA_next_17 : decode b_LA_next 17 = .ok (.astore 4, 2) := by decide +kernel
theorem d_LA_next_19 : decode b_LA_next 19 = .ok (.iconst 2, 1) := by decide +kernel
theorem d_LA_next_20 : decode b_LA_next 20 = .ok (.ireturn, 1) := by decide +kernel
theorem d_LA_next_21 : decode b_LA_next 21 = .ok (.iconst 0, 1) := by decide +kernel
theorem d_LA_next_22 : decode b_LA_next 22 = .ok (.ireturn, 1) := by decide +kernel
theorem d_LA_rows_0 : decode b_LA_rows 0 = .ok (.aload_n 2, 1) := by decide +kernel
theorem d_LA_rows_1 : decode b_LA_rows 1 = .ok (.iconst 0, 1) := by decide +kernel
theorem d_LA_rows_2 : decode b_LA_rows 2 = .ok (.aload_n 0, 1) := by decide +kernel
theorem d_LA_rows_3 : decode b_LA_rows 3 = .ok (.iload_n 1, 1) := by decide +kernel
theorem d_LA_rows_4 : decode b_LA_rows 4 = .ok (.invokevirtual 42, 3) := by decide +kernel
theorem d_LA_rows_7 : decode b_LA_rows 7 = .ok (.i2l, 1) := by decide +kernel
theorem d_LA_rows_8 : decode b_LA_rows 8 = .ok (.lastore, 1) := by decide +kernel
theorem d_LA_rows_9 : decode b_LA_rows 9 = .ok (.goto 9, 3) := by decide +kernel
theorem d_LA_rows_12 : decode b_LA_rows 12 = .ok (.astore_n 3, 1) := by decide +kernel
theorem d_LA_rows_13 : decode b_LA_rows 13 = .ok (.iconst 1, 1) := by decide +kernel
theorem d_LA_rows_14 : decode b_LA_rows 14 = .ok (.ireturn, 1) := by decide +kernel
theorem d_LA_rows_15 : decode b_LA_rows 15 = .ok (.astore_n 3, 1) := by decide +kernel
theorem d_LA_rows_16 : decode b_LA_rows 16 = .ok (.iconst 2, 1) := by decide +kernel
theorem d_LA_rows_17 : decode b_LA_rows 17 = .ok (.ireturn, 1) := by decide +kernel
theorem d_LA_rows_18 : decode b_LA_rows 18 = .ok (.iconst 0, 1) := by decide +kernel
theorem d_LA_rows_19 : decode b_LA_rows 19 = .ok (.ireturn, 1) := by decide +kernel
theorem d_LA_kept_0 : decode b_LA_kept 0 = .ok (.aload_n 2, 1) := by decide +kernel
theorem d_LA_kept_1 : decode b_LA_kept 1 = .ok (.iconst 0, 1) := by decide +kernel
theorem d_LA_kept_2 : decode b_LA_kept 2 = .ok (.aload_n 0, 1) := by decide +kernel
theorem d_LA_kept_3 : decode b_LA_kept 3 = .ok (.iload_n 1, 1) := by decide +kernel
theorem d_LA_kept_4 : decode b_LA_kept 4 = .ok (.invokevirtual 45, 3) := by decide +kernel
theorem d_LA_kept_7 : decode b_LA_kept 7 = .ok (.i2l, 1) := by decide +kernel
theorem d_LA_kept_8 : decode b_LA_kept 8 = .ok (.lastore, 1) := by decide +kernel
theorem d_LA_kept_9 : decode b_LA_kept 9 = .ok (.goto 9, 3) := by decide +kernel
theorem d_LA_kept_12 : decode b_LA_kept 12 = .ok (.astore_n 3, 1) := by decide +kernel
theorem d_LA_kept_13 : decode b_LA_kept 13 = .ok (.iconst 1, 1) := by decide +kernel
theorem d_LA_kept_14 : decode b_LA_kept 14 = .ok (.ireturn, 1) := by decide +kernel
theorem d_LA_kept_15 : decode b_LA_kept 15 = .ok (.astore_n 3, 1) := by decide +kernel
theorem d_LA_kept_16 : decode b_LA_kept 16 = .ok (.iconst 2, 1) := by decide +kernel
theorem d_LA_kept_17 : decode b_LA_kept 17 = .ok (.ireturn, 1) := by decide +kernel
theorem d_LA_kept_18 : decode b_LA_kept 18 = .ok (.iconst 0, 1) := by decide +kernel
theorem d_LA_kept_19 : decode b_LA_kept 19 = .ok (.ireturn, 1) := by decide +kernel
theorem d_LA_crash_0 : decode b_LA_crash 0 = .ok (.aload_n 0, 1) := by decide +kernel
theorem d_LA_crash_1 : decode b_LA_crash 1 = .ok (.iload_n 1, 1) := by decide +kernel
theorem d_LA_crash_2 : decode b_LA_crash 2 = .ok (.invokevirtual 48, 3) := by decide +kernel
theorem d_LA_crash_5 : decode b_LA_crash 5 = .ok (.goto 9, 3) := by decide +kernel
theorem d_LA_crash_8 : decode b_LA_crash 8 = .ok (.astore_n 2, 1) := by decide +kernel
theorem d_LA_crash_9 : decode b_LA_crash 9 = .ok (.iconst 1, 1) := by decide +kernel
theorem d_LA_crash_10 : decode b_LA_crash 10 = .ok (.ireturn, 1) := by decide +kernel
theorem d_LA_crash_11 : decode b_LA_crash 11 = .ok (.astore_n 2, 1) := by decide +kernel
theorem d_LA_crash_12 : decode b_LA_crash 12 = .ok (.iconst 2, 1) := by decide +kernel
theorem d_LA_crash_13 : decode b_LA_crash 13 = .ok (.ireturn, 1) := by decide +kernel
theorem d_LA_crash_14 : decode b_LA_crash 14 = .ok (.iconst 0, 1) := by decide +kernel
theorem d_LA_crash_15 : decode b_LA_crash 15 = .ok (.ireturn, 1) := by decide +kernel
theorem d_LA_byteAt_0 : decode b_LA_byteAt 0 = .ok (.aload_n 3, 1) := by decide +kernel
theorem d_LA_byteAt_1 : decode b_LA_byteAt 1 = .ok (.iconst 0, 1) := by decide +kernel
theorem d_LA_byteAt_2 : decode b_LA_byteAt 2 = .ok (.aload_n 0, 1) := by decide +kernel
theorem d_LA_byteAt_3 : decode b_LA_byteAt 3 = .ok (.iload_n 1, 1) := by decide +kernel
theorem d_LA_byteAt_4 : decode b_LA_byteAt 4 = .ok (.iload_n 2, 1) := by decide +kernel
theorem d_LA_byteAt_5 : decode b_LA_byteAt 5 = .ok (.invokevirtual 52, 3) := by decide +kernel
theorem d_LA_byteAt_8 : decode b_LA_byteAt 8 = .ok (.i2l, 1) := by decide +kernel
theorem d_LA_byteAt_9 : decode b_LA_byteAt 9 = .ok (.lastore, 1) := by decide +kernel
theorem d_LA_byteAt_10 : decode b_LA_byteAt 10 = .ok (.goto 11, 3) := by decide +kernel
theorem d_LA_byteAt_13 : decode b_LA_byteAt 13 = .ok (.astore 4, 2) := by decide +kernel
theorem d_LA_byteAt_15 : decode b_LA_byteAt 15 = .ok (.iconst 1, 1) := by decide +kernel
theorem d_LA_byteAt_16 : decode b_LA_byteAt 16 = .ok (.ireturn, 1) := by decide +kernel
theorem d_LA_byteAt_17 : decode b_LA_byteAt 17 = .ok (.astore 4, 2) := by decide +kernel
theorem d_LA_byteAt_19 : decode b_LA_byteAt 19 = .ok (.iconst 2, 1) := by decide +kernel
theorem d_LA_byteAt_20 : decode b_LA_byteAt 20 = .ok (.ireturn, 1) := by decide +kernel
theorem d_LA_byteAt_21 : decode b_LA_byteAt 21 = .ok (.iconst 0, 1) := by decide +kernel
theorem d_LA_byteAt_22 : decode b_LA_byteAt 22 = .ok (.ireturn, 1) := by decide +kernel
theorem d_LA_poke_0 : decode b_LA_poke 0 = .ok (.aload 4, 2) := by decide +kernel
theorem d_LA_poke_2 : decode b_LA_poke 2 = .ok (.iconst 0, 1) := by decide +kernel
theorem d_LA_poke_3 : decode b_LA_poke 3 = .ok (.aload_n 0, 1) := by decide +kernel
theorem d_LA_poke_4 : decode b_LA_poke 4 = .ok (.iload_n 1, 1) := by decide +kernel
theorem d_LA_poke_5 : decode b_LA_poke 5 = .ok (.iload_n 2, 1) := by decide +kernel
theorem d_LA_poke_6 : decode b_LA_poke 6 = .ok (.iload_n 3, 1) := by decide +kernel
theorem d_LA_poke_7 : decode b_LA_poke 7 = .ok (.invokevirtual 55, 3) := by decide +kernel
theorem d_LA_poke_10 : decode b_LA_poke 10 = .ok (.i2l, 1) := by decide +kernel
theorem d_LA_poke_11 : decode b_LA_poke 11 = .ok (.lastore, 1) := by decide +kernel
theorem d_LA_poke_12 : decode b_LA_poke 12 = .ok (.goto 11, 3) := by decide +kernel
theorem d_LA_poke_15 : decode b_LA_poke 15 = .ok (.astore 5, 2) := by decide +kernel
theorem d_LA_poke_17 : decode b_LA_poke 17 = .ok (.iconst 1, 1) := by decide +kernel
theorem d_LA_poke_18 : decode b_LA_poke 18 = .ok (.ireturn, 1) := by decide +kernel
theorem d_LA_poke_19 : decode b_LA_poke 19 = .ok (.astore 5, 2) := by decide +kernel
theorem d_LA_poke_21 : decode b_LA_poke 21 = .ok (.iconst 2, 1) := by decide +kernel
theorem d_LA_poke_22 : decode b_LA_poke 22 = .ok (.ireturn, 1) := by decide +kernel
theorem d_LA_poke_23 : decode b_LA_poke 23 = .ok (.iconst 0, 1) := by decide +kernel
theorem d_LA_poke_24 : decode b_LA_poke 24 = .ok (.ireturn, 1) := by decide +kernel
theorem d_LA_badAt_0 : decode b_LA_badAt 0 = .ok (.aload_n 2, 1) := by decide +kernel
theorem d_LA_badAt_1 : decode b_LA_badAt 1 = .ok (.iconst 0, 1) := by decide +kernel
theorem d_LA_badAt_2 : decode b_LA_badAt 2 = .ok (.aload_n 0, 1) := by decide +kernel
theorem d_LA_badAt_3 : decode b_LA_badAt 3 = .ok (.iload_n 1, 1) := by decide +kernel
theorem d_LA_badAt_4 : decode b_LA_badAt 4 = .ok (.invokevirtual 59, 3) := by decide +kernel
theorem d_LA_badAt_7 : decode b_LA_badAt 7 = .ok (.i2l, 1) := by decide +kernel
theorem d_LA_badAt_8 : decode b_LA_badAt 8 = .ok (.lastore, 1) := by decide +kernel
theorem d_LA_badAt_9 : decode b_LA_badAt 9 = .ok (.goto 9, 3) := by decide +kernel
theorem d_LA_badAt_12 : decode b_LA_badAt 12 = .ok (.astore_n 3, 1) := by decide +kernel
theorem d_LA_badAt_13 : decode b_LA_badAt 13 = .ok (.iconst 1, 1) := by decide +kernel
theorem d_LA_badAt_14 : decode b_LA_badAt 14 = .ok (.ireturn, 1) := by decide +kernel
theorem d_LA_badAt_15 : decode b_LA_badAt 15 = .ok (.astore_n 3, 1) := by decide +kernel
theorem d_LA_badAt_16 : decode b_LA_badAt 16 = .ok (.iconst 2, 1) := by decide +kernel
theorem d_LA_badAt_17 : decode b_LA_badAt 17 = .ok (.ireturn, 1) := by decide +kernel
theorem d_LA_badAt_18 : decode b_LA_badAt 18 = .ok (.iconst 0, 1) := by decide +kernel
theorem d_LA_badAt_19 : decode b_LA_badAt 19 = .ok (.ireturn, 1) := by decide +kernel
theorem d_LA_told_0 : decode b_LA_told 0 = .ok (.aload_n 2, 1) := by decide +kernel
theorem d_LA_told_1 : decode b_LA_told 1 = .ok (.iconst 0, 1) := by decide +kernel
theorem d_LA_told_2 : decode b_LA_told 2 = .ok (.aload_n 0, 1) := by decide +kernel
theorem d_LA_told_3 : decode b_LA_told 3 = .ok (.iload_n 1, 1) := by decide +kernel
theorem d_LA_told_4 : decode b_LA_told 4 = .ok (.invokevirtual 62, 3) := by decide +kernel
theorem d_LA_told_7 : decode b_LA_told 7 = .ok (.i2l, 1) := by decide +kernel
theorem d_LA_told_8 : decode b_LA_told 8 = .ok (.lastore, 1) := by decide +kernel
theorem d_LA_told_9 : decode b_LA_told 9 = .ok (.goto 9, 3) := by decide +kernel
theorem d_LA_told_12 : decode b_LA_told 12 = .ok (.astore_n 3, 1) := by decide +kernel
theorem d_LA_told_13 : decode b_LA_told 13 = .ok (.iconst 1, 1) := by decide +kernel
theorem d_LA_told_14 : decode b_LA_told 14 = .ok (.ireturn, 1) := by decide +kernel
theorem d_LA_told_15 : decode b_LA_told 15 = .ok (.astore_n 3, 1) := by decide +kernel
theorem d_LA_told_16 : decode b_LA_told 16 = .ok (.iconst 2, 1) := by decide +kernel
theorem d_LA_told_17 : decode b_LA_told 17 = .ok (.ireturn, 1) := by decide +kernel
theorem d_LA_told_18 : decode b_LA_told 18 = .ok (.iconst 0, 1) := by decide +kernel
theorem d_LA_told_19 : decode b_LA_told 19 = .ok (.ireturn, 1) := by decide +kernel

theorem dX0_init_0 : decode cX0_init 0 = .ok (.aload_n 0, 1) := by decide +kernel
theorem dX0_init_1 : decode cX0_init 1 = .ok (.invokespecial 3, 3) := by decide +kernel
theorem dX0_init_4 : decode cX0_init 4 = .ok (.aload_n 0, 1) := by decide +kernel
theorem dX0_init_5 : decode cX0_init 5 = .ok (.sipush 300, 3) := by decide +kernel
theorem dX0_init_8 : decode cX0_init 8 = .ok (.anewarray 9, 3) := by decide +kernel
theorem dX0_init_11 : decode cX0_init 11 = .ok (.putfield 11, 3) := by decide +kernel
theorem dX0_init_14 : decode cX0_init 14 = .ok (.aload_n 0, 1) := by decide +kernel
theorem dX0_init_15 : decode cX0_init 15 = .ok (.iconst 0, 1) := by decide +kernel
theorem dX0_init_16 : decode cX0_init 16 = .ok (.putfield 17, 3) := by decide +kernel
theorem dX0_init_19 : decode cX0_init 19 = .ok (.return_, 1) := by decide +kernel
theorem dX0_length_0 : decode cX0_length 0 = .ok (.aload_n 0, 1) := by decide +kernel
theorem dX0_length_1 : decode cX0_length 1 = .ok (.getfield 17, 3) := by decide +kernel
theorem dX0_length_4 : decode cX0_length 4 = .ok (.ireturn, 1) := by decide +kernel
theorem dX0_isFull_0 : decode cX0_isFull 0 = .ok (.aload_n 0, 1) := by decide +kernel
theorem dX0_isFull_1 : decode cX0_isFull 1 = .ok (.getfield 17, 3) := by decide +kernel
theorem dX0_isFull_4 : decode cX0_isFull 4 = .ok (.aload_n 0, 1) := by decide +kernel
theorem dX0_isFull_5 : decode cX0_isFull 5 = .ok (.getfield 11, 3) := by decide +kernel
theorem dX0_isFull_8 : decode cX0_isFull 8 = .ok (.arraylength, 1) := by decide +kernel
theorem dX0_isFull_9 : decode cX0_isFull 9 = .ok (.if_icmp .lt 7, 3) := by decide +kernel
theorem dX0_isFull_12 : decode cX0_isFull 12 = .ok (.iconst 1, 1) := by decide +kernel
theorem dX0_isFull_13 : decode cX0_isFull 13 = .ok (.goto 4, 3) := by decide +kernel
theorem dX0_isFull_16 : decode cX0_isFull 16 = .ok (.iconst 0, 1) := by decide +kernel
theorem dX0_isFull_17 : decode cX0_isFull 17 = .ok (.ireturn, 1) := by decide +kernel
theorem dX0_add_0 : decode cX0_add 0 = .ok (.aload_n 0, 1) := by decide +kernel
theorem dX0_add_1 : decode cX0_add 1 = .ok (.getfield 17, 3) := by decide +kernel
theorem dX0_add_4 : decode cX0_add 4 = .ok (.ifCond .lt 15, 3) := by decide +kernel
theorem dX0_add_7 : decode cX0_add 7 = .ok (.aload_n 0, 1) := by decide +kernel
theorem dX0_add_8 : decode cX0_add 8 = .ok (.getfield 17, 3) := by decide +kernel
theorem dX0_add_11 : decode cX0_add 11 = .ok (.aload_n 0, 1) := by decide +kernel
theorem dX0_add_12 : decode cX0_add 12 = .ok (.getfield 11, 3) := by decide +kernel
theorem dX0_add_15 : decode cX0_add 15 = .ok (.arraylength, 1) := by decide +kernel
theorem dX0_add_16 : decode cX0_add 16 = .ok (.if_icmp .lt 4, 3) := by decide +kernel
theorem dX0_add_19 : decode cX0_add 19 = .ok (.return_, 1) := by decide +kernel
theorem dX0_add_20 : decode cX0_add 20 = .ok (.aload_n 0, 1) := by decide +kernel
theorem dX0_add_21 : decode cX0_add 21 = .ok (.getfield 11, 3) := by decide +kernel
theorem dX0_add_24 : decode cX0_add 24 = .ok (.aload_n 0, 1) := by decide +kernel
theorem dX0_add_25 : decode cX0_add 25 = .ok (.getfield 17, 3) := by decide +kernel
theorem dX0_add_28 : decode cX0_add 28 = .ok (.aload_n 1, 1) := by decide +kernel
theorem dX0_add_29 : decode cX0_add 29 = .ok (.aastore, 1) := by decide +kernel
theorem dX0_add_30 : decode cX0_add 30 = .ok (.aload_n 0, 1) := by decide +kernel
theorem dX0_add_31 : decode cX0_add 31 = .ok (.dup, 1) := by decide +kernel
theorem dX0_add_32 : decode cX0_add 32 = .ok (.getfield 17, 3) := by decide +kernel
theorem dX0_add_35 : decode cX0_add 35 = .ok (.iconst 1, 1) := by decide +kernel
theorem dX0_add_36 : decode cX0_add 36 = .ok (.iadd, 1) := by decide +kernel
theorem dX0_add_37 : decode cX0_add 37 = .ok (.putfield 17, 3) := by decide +kernel
theorem dX0_add_40 : decode cX0_add 40 = .ok (.return_, 1) := by decide +kernel
theorem dX0_replay_0 : decode cX0_replay 0 = .ok (.iconst 0, 1) := by decide +kernel
theorem dX0_replay_1 : decode cX0_replay 1 = .ok (.istore_n 3, 1) := by decide +kernel
theorem dX0_replay_2 : decode cX0_replay 2 = .ok (.iload_n 3, 1) := by decide +kernel
theorem dX0_replay_3 : decode cX0_replay 3 = .ok (.iload_n 1, 1) := by decide +kernel
theorem dX0_replay_4 : decode cX0_replay 4 = .ok (.if_icmp .ge 37, 3) := by decide +kernel
theorem dX0_replay_7 : decode cX0_replay 7 = .ok (.iload_n 3, 1) := by decide +kernel
theorem dX0_replay_8 : decode cX0_replay 8 = .ok (.aload_n 0, 1) := by decide +kernel
theorem dX0_replay_9 : decode cX0_replay 9 = .ok (.getfield 11, 3) := by decide +kernel
theorem dX0_replay_12 : decode cX0_replay 12 = .ok (.arraylength, 1) := by decide +kernel
theorem dX0_replay_13 : decode cX0_replay 13 = .ok (.if_icmp .ge 28, 3) := by decide +kernel
theorem dX0_replay_16 : decode cX0_replay 16 = .ok (.aload_n 0, 1) := by decide +kernel
theorem dX0_replay_17 : decode cX0_replay 17 = .ok (.getfield 11, 3) := by decide +kernel
theorem dX0_replay_20 : decode cX0_replay 20 = .ok (.iload_n 3, 1) := by decide +kernel
theorem dX0_replay_21 : decode cX0_replay 21 = .ok (.aaload, 1) := by decide +kernel
theorem dX0_replay_22 : decode cX0_replay 22 = .ok (.astore 4, 2) := by decide +kernel
theorem dX0_replay_24 : decode cX0_replay 24 = .ok (.aload 4, 2) := by decide +kernel
theorem dX0_replay_26 : decode cX0_replay 26 = .ok (.ifnull 9, 3) := by decide +kernel
theorem dX0_replay_29 : decode cX0_replay 29 = .ok (.aload_n 2, 1) := by decide +kernel
theorem dX0_replay_30 : decode cX0_replay 30 = .ok (.aload 4, 2) := by decide +kernel
theorem dX0_replay_32 : decode cX0_replay 32 = .ok (.invokevirtual 21, 3) := by decide +kernel
theorem dX0_replay_35 : decode cX0_replay 35 = .ok (.iinc 3 1, 3) := by decide +kernel
theorem dX0_replay_38 : decode cX0_replay 38 = .ok (.goto (-36), 3) := by decide +kernel
theorem dX0_replay_41 : decode cX0_replay 41 = .ok (.return_, 1) := by decide +kernel
theorem dX1_init_0 : decode cX1_init 0 = .ok (.aload_n 0, 1) := by decide +kernel
theorem dX1_init_1 : decode cX1_init 1 = .ok (.invokespecial 3, 3) := by decide +kernel
theorem dX1_init_4 : decode cX1_init 4 = .ok (.aload_n 0, 1) := by decide +kernel
theorem dX1_init_5 : decode cX1_init 5 = .ok (.sipush 600, 3) := by decide +kernel
theorem dX1_init_8 : decode cX1_init 8 = .ok (.newarray .int, 2) := by decide +kernel
theorem dX1_init_10 : decode cX1_init 10 = .ok (.putfield 9, 3) := by decide +kernel
theorem dX1_init_13 : decode cX1_init 13 = .ok (.aload_n 0, 1) := by decide +kernel
theorem dX1_init_14 : decode cX1_init 14 = .ok (.iconst 0, 1) := by decide +kernel
theorem dX1_init_15 : decode cX1_init 15 = .ok (.putfield 15, 3) := by decide +kernel
theorem dX1_init_18 : decode cX1_init 18 = .ok (.aload_n 0, 1) := by decide +kernel
theorem dX1_init_19 : decode cX1_init 19 = .ok (.lconst 0, 1) := by decide +kernel
theorem dX1_init_20 : decode cX1_init 20 = .ok (.putfield 19, 3) := by decide +kernel
theorem dX1_init_23 : decode cX1_init 23 = .ok (.return_, 1) := by decide +kernel
theorem dX1_length_0 : decode cX1_length 0 = .ok (.aload_n 0, 1) := by decide +kernel
theorem dX1_length_1 : decode cX1_length 1 = .ok (.getfield 15, 3) := by decide +kernel
theorem dX1_length_4 : decode cX1_length 4 = .ok (.ireturn, 1) := by decide +kernel
theorem dX1_at_0 : decode cX1_at 0 = .ok (.iload_n 1, 1) := by decide +kernel
theorem dX1_at_1 : decode cX1_at 1 = .ok (.ifCond .lt 29, 3) := by decide +kernel
theorem dX1_at_4 : decode cX1_at 4 = .ok (.iload_n 1, 1) := by decide +kernel
theorem dX1_at_5 : decode cX1_at 5 = .ok (.aload_n 0, 1) := by decide +kernel
theorem dX1_at_6 : decode cX1_at 6 = .ok (.getfield 15, 3) := by decide +kernel
theorem dX1_at_9 : decode cX1_at 9 = .ok (.if_icmp .ge 21, 3) := by decide +kernel
theorem dX1_at_12 : decode cX1_at 12 = .ok (.iload_n 1, 1) := by decide +kernel
theorem dX1_at_13 : decode cX1_at 13 = .ok (.aload_n 0, 1) := by decide +kernel
theorem dX1_at_14 : decode cX1_at 14 = .ok (.getfield 9, 3) := by decide +kernel
theorem dX1_at_17 : decode cX1_at 17 = .ok (.arraylength, 1) := by decide +kernel
theorem dX1_at_18 : decode cX1_at 18 = .ok (.if_icmp .ge 12, 3) := by decide +kernel
theorem dX1_at_21 : decode cX1_at 21 = .ok (.aload_n 0, 1) := by decide +kernel
theorem dX1_at_22 : decode cX1_at 22 = .ok (.getfield 9, 3) := by decide +kernel
theorem dX1_at_25 : decode cX1_at 25 = .ok (.iload_n 1, 1) := by decide +kernel
theorem dX1_at_26 : decode cX1_at 26 = .ok (.iaload, 1) := by decide +kernel
theorem dX1_at_27 : decode cX1_at 27 = .ok (.goto 6, 3) := by decide +kernel
theorem dX1_at_30 : decode cX1_at 30 = .ok (.sipush (-5000), 3) := by decide +kernel
theorem dX1_at_33 : decode cX1_at 33 = .ok (.ireturn, 1) := by decide +kernel
theorem dX1_isValueAt_0 : decode cX1_isValueAt 0 = .ok (.aload_n 0, 1) := by decide +kernel
theorem dX1_isValueAt_1 : decode cX1_isValueAt 1 = .ok (.iload_n 1, 1) := by decide +kernel
theorem dX1_isValueAt_2 : decode cX1_isValueAt 2 = .ok (.invokevirtual 23, 3) := by decide +kernel
theorem dX1_isValueAt_5 : decode cX1_isValueAt 5 = .ok (.invokestatic 27, 3) := by decide +kernel
theorem dX1_isValueAt_8 : decode cX1_isValueAt 8 = .ok (.ireturn, 1) := by decide +kernel
theorem dX1_put_0 : decode cX1_put 0 = .ok (.iload_n 1, 1) := by decide +kernel
theorem dX1_put_1 : decode cX1_put 1 = .ok (.ifCond .lt 27, 3) := by decide +kernel
theorem dX1_put_4 : decode cX1_put 4 = .ok (.iload_n 1, 1) := by decide +kernel
theorem dX1_put_5 : decode cX1_put 5 = .ok (.aload_n 0, 1) := by decide +kernel
theorem dX1_put_6 : decode cX1_put 6 = .ok (.getfield 15, 3) := by decide +kernel
theorem dX1_put_9 : decode cX1_put 9 = .ok (.if_icmp .ge 19, 3) := by decide +kernel
theorem dX1_put_12 : decode cX1_put 12 = .ok (.iload_n 1, 1) := by decide +kernel
theorem dX1_put_13 : decode cX1_put 13 = .ok (.aload_n 0, 1) := by decide +kernel
theorem dX1_put_14 : decode cX1_put 14 = .ok (.getfield 9, 3) := by decide +kernel
theorem dX1_put_17 : decode cX1_put 17 = .ok (.arraylength, 1) := by decide +kernel
theorem dX1_put_18 : decode cX1_put 18 = .ok (.if_icmp .ge 10, 3) := by decide +kernel
theorem dX1_put_21 : decode cX1_put 21 = .ok (.aload_n 0, 1) := by decide +kernel
theorem dX1_put_22 : decode cX1_put 22 = .ok (.getfield 9, 3) := by decide +kernel
theorem dX1_put_25 : decode cX1_put 25 = .ok (.iload_n 1, 1) := by decide +kernel
theorem dX1_put_26 : decode cX1_put 26 = .ok (.iload_n 2, 1) := by decide +kernel
theorem dX1_put_27 : decode cX1_put 27 = .ok (.iastore, 1) := by decide +kernel
theorem dX1_put_28 : decode cX1_put 28 = .ok (.return_, 1) := by decide +kernel
theorem dX1_hasMarksOf_0 : decode cX1_hasMarksOf 0 = .ok (.aload_n 0, 1) := by decide +kernel
theorem dX1_hasMarksOf_1 : decode cX1_hasMarksOf 1 = .ok (.getfield 15, 3) := by decide +kernel
theorem dX1_hasMarksOf_4 : decode cX1_hasMarksOf 4 = .ok (.aload_n 1, 1) := by decide +kernel
theorem dX1_hasMarksOf_5 : decode cX1_hasMarksOf 5 = .ok (.getfield 15, 3) := by decide +kernel
theorem dX1_hasMarksOf_8 : decode cX1_hasMarksOf 8 = .ok (.if_icmp .eq 5, 3) := by decide +kernel
theorem dX1_hasMarksOf_11 : decode cX1_hasMarksOf 11 = .ok (.iconst 0, 1) := by decide +kernel
theorem dX1_hasMarksOf_12 : decode cX1_hasMarksOf 12 = .ok (.ireturn, 1) := by decide +kernel
theorem dX1_hasMarksOf_13 : decode cX1_hasMarksOf 13 = .ok (.iconst 0, 1) := by decide +kernel
theorem dX1_hasMarksOf_14 : decode cX1_hasMarksOf 14 = .ok (.istore_n 2, 1) := by decide +kernel
theorem dX1_hasMarksOf_15 : decode cX1_hasMarksOf 15 = .ok (.iload_n 2, 1) := by decide +kernel
theorem dX1_hasMarksOf_16 : decode cX1_hasMarksOf 16 = .ok (.aload_n 0, 1) := by decide +kernel
theorem dX1_hasMarksOf_17 : decode cX1_hasMarksOf 17 = .ok (.getfield 15, 3) := by decide +kernel
theorem dX1_hasMarksOf_20 : decode cX1_hasMarksOf 20 = .ok (.if_icmp .ge 31, 3) := by decide +kernel
theorem dX1_hasMarksOf_23 : decode cX1_hasMarksOf 23 = .ok (.iload_n 2, 1) := by decide +kernel
theorem dX1_hasMarksOf_24 : decode cX1_hasMarksOf 24 = .ok (.sipush 600, 3) := by decide +kernel
theorem dX1_hasMarksOf_27 : decode cX1_hasMarksOf 27 = .ok (.if_icmp .ge 24, 3) := by decide +kernel
theorem dX1_hasMarksOf_30 : decode cX1_hasMarksOf 30 = .ok (.aload_n 0, 1) := by decide +kernel
theorem dX1_hasMarksOf_31 : decode cX1_hasMarksOf 31 = .ok (.iload_n 2, 1) := by decide +kernel
theorem dX1_hasMarksOf_32 : decode cX1_hasMarksOf 32 = .ok (.invokevirtual 23, 3) := by decide +kernel
theorem dX1_hasMarksOf_35 : decode cX1_hasMarksOf 35 = .ok (.aload_n 1, 1) := by decide +kernel
theorem dX1_hasMarksOf_36 : decode cX1_hasMarksOf 36 = .ok (.iload_n 2, 1) := by decide +kernel
theorem dX1_hasMarksOf_37 : decode cX1_hasMarksOf 37 = .ok (.invokevirtual 23, 3) := by decide +kernel
theorem dX1_hasMarksOf_40 : decode cX1_hasMarksOf 40 = .ok (.if_icmp .eq 5, 3) := by decide +kernel
theorem dX1_hasMarksOf_43 : decode cX1_hasMarksOf 43 = .ok (.iconst 0, 1) := by decide +kernel
theorem dX1_hasMarksOf_44 : decode cX1_hasMarksOf 44 = .ok (.ireturn, 1) := by decide +kernel
theorem dX1_hasMarksOf_45 : decode cX1_hasMarksOf 45 = .ok (.iinc 2 1, 3) := by decide +kernel
theorem dX1_hasMarksOf_48 : decode cX1_hasMarksOf 48 = .ok (.goto (-33), 3) := by decide +kernel
theorem dX1_hasMarksOf_51 : decode cX1_hasMarksOf 51 = .ok (.iconst 1, 1) := by decide +kernel
theorem dX1_hasMarksOf_52 : decode cX1_hasMarksOf 52 = .ok (.ireturn, 1) := by decide +kernel
theorem dX1_takeFrom_0 : decode cX1_takeFrom 0 = .ok (.aload_n 0, 1) := by decide +kernel
theorem dX1_takeFrom_1 : decode cX1_takeFrom 1 = .ok (.aload_n 1, 1) := by decide +kernel
theorem dX1_takeFrom_2 : decode cX1_takeFrom 2 = .ok (.getfield 15, 3) := by decide +kernel
theorem dX1_takeFrom_5 : decode cX1_takeFrom 5 = .ok (.putfield 15, 3) := by decide +kernel
theorem dX1_takeFrom_8 : decode cX1_takeFrom 8 = .ok (.iconst 0, 1) := by decide +kernel
theorem dX1_takeFrom_9 : decode cX1_takeFrom 9 = .ok (.istore_n 2, 1) := by decide +kernel
theorem dX1_takeFrom_10 : decode cX1_takeFrom 10 = .ok (.iload_n 2, 1) := by decide +kernel
theorem dX1_takeFrom_11 : decode cX1_takeFrom 11 = .ok (.aload_n 0, 1) := by decide +kernel
theorem dX1_takeFrom_12 : decode cX1_takeFrom 12 = .ok (.getfield 15, 3) := by decide +kernel
theorem dX1_takeFrom_15 : decode cX1_takeFrom 15 = .ok (.if_icmp .ge 29, 3) := by decide +kernel
theorem dX1_takeFrom_18 : decode cX1_takeFrom 18 = .ok (.iload_n 2, 1) := by decide +kernel
theorem dX1_takeFrom_19 : decode cX1_takeFrom 19 = .ok (.aload_n 0, 1) := by decide +kernel
theorem dX1_takeFrom_20 : decode cX1_takeFrom 20 = .ok (.getfield 9, 3) := by decide +kernel
theorem dX1_takeFrom_23 : decode cX1_takeFrom 23 = .ok (.arraylength, 1) := by decide +kernel
theorem dX1_takeFrom_24 : decode cX1_takeFrom 24 = .ok (.if_icmp .ge 20, 3) := by decide +kernel
theorem dX1_takeFrom_27 : decode cX1_takeFrom 27 = .ok (.aload_n 0, 1) := by decide +kernel
theorem dX1_takeFrom_28 : decode cX1_takeFrom 28 = .ok (.getfield 9, 3) := by decide +kernel
theorem dX1_takeFrom_31 : decode cX1_takeFrom 31 = .ok (.iload_n 2, 1) := by decide +kernel
theorem dX1_takeFrom_32 : decode cX1_takeFrom 32 = .ok (.aload_n 1, 1) := by decide +kernel
theorem dX1_takeFrom_33 : decode cX1_takeFrom 33 = .ok (.iload_n 2, 1) := by decide +kernel
theorem dX1_takeFrom_34 : decode cX1_takeFrom 34 = .ok (.invokevirtual 23, 3) := by decide +kernel
theorem dX1_takeFrom_37 : decode cX1_takeFrom 37 = .ok (.iastore, 1) := by decide +kernel
theorem dX1_takeFrom_38 : decode cX1_takeFrom 38 = .ok (.iinc 2 1, 3) := by decide +kernel
theorem dX1_takeFrom_41 : decode cX1_takeFrom 41 = .ok (.goto (-31), 3) := by decide +kernel
theorem dX1_takeFrom_44 : decode cX1_takeFrom 44 = .ok (.return_, 1) := by decide +kernel
theorem dX1_rowAround_0 : decode cX1_rowAround 0 = .ok (.iconst 0, 1) := by decide +kernel
theorem dX1_rowAround_1 : decode cX1_rowAround 1 = .ok (.istore_n 2, 1) := by decide +kernel
theorem dX1_rowAround_2 : decode cX1_rowAround 2 = .ok (.iload_n 1, 1) := by decide +kernel
theorem dX1_rowAround_3 : decode cX1_rowAround 3 = .ok (.iconst 0, 1) := by decide +kernel
theorem dX1_rowAround_4 : decode cX1_rowAround 4 = .ok (.invokestatic 31, 3) := by decide +kernel
theorem dX1_rowAround_7 : decode cX1_rowAround 7 = .ok (.aload_n 0, 1) := by decide +kernel
theorem dX1_rowAround_8 : decode cX1_rowAround 8 = .ok (.getfield 15, 3) := by decide +kernel
theorem dX1_rowAround_11 : decode cX1_rowAround 11 = .ok (.invokestatic 37, 3) := by decide +kernel
theorem dX1_rowAround_14 : decode cX1_rowAround 14 = .ok (.iconst 1, 1) := by decide +kernel
theorem dX1_rowAround_15 : decode cX1_rowAround 15 = .ok (.isub, 1) := by decide +kernel
theorem dX1_rowAround_16 : decode cX1_rowAround 16 = .ok (.istore_n 3, 1) := by decide +kernel
theorem dX1_rowAround_17 : decode cX1_rowAround 17 = .ok (.iload_n 3, 1) := by decide +kernel
theorem dX1_rowAround_18 : decode cX1_rowAround 18 = .ok (.ifCond .lt 60, 3) := by decide +kernel
theorem dX1_rowAround_21 : decode cX1_rowAround 21 = .ok (.aload_n 0, 1) := by decide +kernel
theorem dX1_rowAround_22 : decode cX1_rowAround 22 = .ok (.iload_n 3, 1) := by decide +kernel
theorem dX1_rowAround_23 : decode cX1_rowAround 23 = .ok (.invokevirtual 23, 3) := by decide +kernel
theorem dX1_rowAround_26 : decode cX1_rowAround 26 = .ok (.istore 4, 2) := by decide +kernel
theorem dX1_rowAround_28 : decode cX1_rowAround 28 = .ok (.iload 4, 2) := by decide +kernel
theorem dX1_rowAround_30 : decode cX1_rowAround 30 = .ok (.sipush 30000, 3) := by decide +kernel
theorem dX1_rowAround_33 : decode cX1_rowAround 33 = .ok (.if_icmp .ne 9, 3) := by decide +kernel
theorem dX1_rowAround_36 : decode cX1_rowAround 36 = .ok (.iinc 2 1, 3) := by decide +kernel
theorem dX1_rowAround_39 : decode cX1_rowAround 39 = .ok (.goto 33, 3) := by decide +kernel
theorem dX1_rowAround_42 : decode cX1_rowAround 42 = .ok (.iload 4, 2) := by decide +kernel
theorem dX1_rowAround_44 : decode cX1_rowAround 44 = .ok (.sipush 10000, 3) := by decide +kernel
theorem dX1_rowAround_47 : decode cX1_rowAround 47 = .ok (.if_icmp .lt 25, 3) := by decide +kernel
theorem dX1_rowAround_50 : decode cX1_rowAround 50 = .ok (.iload 4, 2) := by decide +kernel
theorem dX1_rowAround_52 : decode cX1_rowAround 52 = .ok (.sipush 20000, 3) := by decide +kernel
theorem dX1_rowAround_55 : decode cX1_rowAround 55 = .ok (.if_icmp .ge 17, 3) := by decide +kernel
theorem dX1_rowAround_58 : decode cX1_rowAround 58 = .ok (.iload_n 2, 1) := by decide +kernel
theorem dX1_rowAround_59 : decode cX1_rowAround 59 = .ok (.ifCond .ne 10, 3) := by decide +kernel
theorem dX1_rowAround_62 : decode cX1_rowAround 62 = .ok (.iload 4, 2) := by decide +kernel
theorem dX1_rowAround_64 : decode cX1_rowAround 64 = .ok (.sipush 10000, 3) := by decide +kernel
theorem dX1_rowAround_67 : decode cX1_rowAround 67 = .ok (.isub, 1) := by decide +kernel
theorem dX1_rowAround_68 : decode cX1_rowAround 68 = .ok (.ireturn, 1) := by decide +kernel
theorem dX1_rowAround_69 : decode cX1_rowAround 69 = .ok (.iinc 2 (-1), 3) := by decide +kernel
theorem dX1_rowAround_72 : decode cX1_rowAround 72 = .ok (.iinc 3 (-1), 3) := by decide +kernel
theorem dX1_rowAround_75 : decode cX1_rowAround 75 = .ok (.goto (-58), 3) := by decide +kernel
theorem dX1_rowAround_78 : decode cX1_rowAround 78 = .ok (.iconst (-1), 1) := by decide +kernel
theorem dX1_rowAround_79 : decode cX1_rowAround 79 = .ok (.ireturn, 1) := by decide +kernel
theorem dX1_gather_0 : decode cX1_gather 0 = .ok (.aload_n 0, 1) := by decide +kernel
theorem dX1_gather_1 : decode cX1_gather 1 = .ok (.iconst 0, 1) := by decide +kernel
theorem dX1_gather_2 : decode cX1_gather 2 = .ok (.putfield 15, 3) := by decide +kernel
theorem dX1_gather_5 : decode cX1_gather 5 = .ok (.aload_n 0, 1) := by decide +kernel
theorem dX1_gather_6 : decode cX1_gather 6 = .ok (.lconst 0, 1) := by decide +kernel
theorem dX1_gather_7 : decode cX1_gather 7 = .ok (.putfield 19, 3) := by decide +kernel
theorem dX1_gather_10 : decode cX1_gather 10 = .ok (.aload_n 2, 1) := by decide +kernel
theorem dX1_gather_11 : decode cX1_gather 11 = .ok (.iload_n 3, 1) := by decide +kernel
theorem dX1_gather_12 : decode cX1_gather 12 = .ok (.invokevirtual 40, 3) := by decide +kernel
theorem dX1_gather_15 : decode cX1_gather 15 = .ok (.astore 4, 2) := by decide +kernel
theorem dX1_gather_17 : decode cX1_gather 17 = .ok (.aload 4, 2) := by decide +kernel
theorem dX1_gather_19 : decode cX1_gather 19 = .ok (.ifnull 26, 3) := by decide +kernel
theorem dX1_gather_22 : decode cX1_gather 22 = .ok (.aload 4, 2) := by decide +kernel
theorem dX1_gather_24 : decode cX1_gather 24 = .ok (.getfield 46, 3) := by decide +kernel
theorem dX1_gather_27 : decode cX1_gather 27 = .ok (.aload_n 1, 1) := by decide +kernel
theorem dX1_gather_28 : decode cX1_gather 28 = .ok (.iconst 0, 1) := by decide +kernel
theorem dX1_gather_29 : decode cX1_gather 29 = .ok (.invokevirtual 51, 3) := by decide +kernel
theorem dX1_gather_32 : decode cX1_gather 32 = .ok (.if_icmp .ne 13, 3) := by decide +kernel
theorem dX1_gather_35 : decode cX1_gather 35 = .ok (.aload_n 0, 1) := by decide +kernel
theorem dX1_gather_36 : decode cX1_gather 36 = .ok (.aload_n 1, 1) := by decide +kernel
theorem dX1_gather_37 : decode cX1_gather 37 = .ok (.aload_n 2, 1) := by decide +kernel
theorem dX1_gather_38 : decode cX1_gather 38 = .ok (.iconst 0, 1) := by decide +kernel
theorem dX1_gather_39 : decode cX1_gather 39 = .ok (.aload 4, 2) := by decide +kernel
theorem dX1_gather_41 : decode cX1_gather 41 = .ok (.iconst 0, 1) := by decide +kernel
theorem dX1_gather_42 : decode cX1_gather 42 = .ok (.invokevirtual 56, 3) := by decide +kernel
theorem dX1_gather_45 : decode cX1_gather 45 = .ok (.return_, 1) := by decide +kernel
theorem dX1_addPart_0 : decode cX1_addPart 0 = .ok (.iload 5, 2) := by decide +kernel
theorem dX1_addPart_2 : decode cX1_addPart 2 = .ok (.bipush 6, 2) := by decide +kernel
theorem dX1_addPart_4 : decode cX1_addPart 4 = .ok (.if_icmp .gt 10, 3) := by decide +kernel
theorem dX1_addPart_7 : decode cX1_addPart 7 = .ok (.aload_n 0, 1) := by decide +kernel
theorem dX1_addPart_8 : decode cX1_addPart 8 = .ok (.invokevirtual 60, 3) := by decide +kernel
theorem dX1_addPart_11 : decode cX1_addPart 11 = .ok (.ifCond .eq 4, 3) := by decide +kernel
theorem dX1_addPart_14 : decode cX1_addPart 14 = .ok (.return_, 1) := by decide +kernel
theorem dX1_addPart_15 : decode cX1_addPart 15 = .ok (.lconst 1, 1) := by decide +kernel
theorem dX1_addPart_16 : decode cX1_addPart 16 = .ok (.aload 4, 2) := by decide +kernel
theorem dX1_addPart_18 : decode cX1_addPart 18 = .ok (.getfield 64, 3) := by decide +kernel
theorem dX1_addPart_21 : decode cX1_addPart 21 = .ok (.lshl, 1) := by decide +kernel
theorem dX1_addPart_22 : decode cX1_addPart 22 = .ok (.lstore 6, 2) := by decide +kernel
theorem dX1_addPart_24 : decode cX1_addPart 24 = .ok (.aload_n 0, 1) := by decide +kernel
theorem dX1_addPart_25 : decode cX1_addPart 25 = .ok (.getfield 19, 3) := by decide +kernel
theorem dX1_addPart_28 : decode cX1_addPart 28 = .ok (.lload 6, 2) := by decide +kernel
theorem dX1_addPart_30 : decode cX1_addPart 30 = .ok (.land, 1) := by decide +kernel
theorem dX1_addPart_31 : decode cX1_addPart 31 = .ok (.lconst 0, 1) := by decide +kernel
theorem dX1_addPart_32 : decode cX1_addPart 32 = .ok (.lcmp, 1) := by decide +kernel
theorem dX1_addPart_33 : decode cX1_addPart 33 = .ok (.ifCond .eq 17, 3) := by decide +kernel
theorem dX1_addPart_36 : decode cX1_addPart 36 = .ok (.aload_n 0, 1) := by decide +kernel
theorem dX1_addPart_37 : decode cX1_addPart 37 = .ok (.sipush 20000, 3) := by decide +kernel
theorem dX1_addPart_40 : decode cX1_addPart 40 = .ok (.aload 4, 2) := by decide +kernel
theorem dX1_addPart_42 : decode cX1_addPart 42 = .ok (.getfield 64, 3) := by decide +kernel
theorem dX1_addPart_45 : decode cX1_addPart 45 = .ok (.iadd, 1) := by decide +kernel
theorem dX1_addPart_46 : decode cX1_addPart 46 = .ok (.invokevirtual 67, 3) := by decide +kernel
theorem dX1_addPart_49 : decode cX1_addPart 49 = .ok (.return_, 1) := by decide +kernel
theorem dX1_addPart_50 : decode cX1_addPart 50 = .ok (.aload_n 0, 1) := by decide +kernel
theorem dX1_addPart_51 : decode cX1_addPart 51 = .ok (.dup, 1) := by decide +kernel
theorem dX1_addPart_52 : decode cX1_addPart 52 = .ok (.getfield 19, 3) := by decide +kernel
theorem dX1_addPart_55 : decode cX1_addPart 55 = .ok (.lload 6, 2) := by decide +kernel
theorem dX1_addPart_57 : decode cX1_addPart 57 = .ok (.lor, 1) := by decide +kernel
theorem dX1_addPart_58 : decode cX1_addPart 58 = .ok (.putfield 19, 3) := by decide +kernel
theorem dX1_addPart_61 : decode cX1_addPart 61 = .ok (.aload_n 0, 1) := by decide +kernel
theorem dX1_addPart_62 : decode cX1_addPart 62 = .ok (.sipush 10000, 3) := by decide +kernel
theorem dX1_addPart_65 : decode cX1_addPart 65 = .ok (.aload 4, 2) := by decide +kernel
theorem dX1_addPart_67 : decode cX1_addPart 67 = .ok (.getfield 64, 3) := by decide +kernel
theorem dX1_addPart_70 : decode cX1_addPart 70 = .ok (.iadd, 1) := by decide +kernel
theorem dX1_addPart_71 : decode cX1_addPart 71 = .ok (.invokevirtual 67, 3) := by decide +kernel
theorem dX1_addPart_74 : decode cX1_addPart 74 = .ok (.aload_n 1, 1) := by decide +kernel
theorem dX1_addPart_75 : decode cX1_addPart 75 = .ok (.invokevirtual 71, 3) := by decide +kernel
theorem dX1_addPart_78 : decode cX1_addPart 78 = .ok (.istore 8, 2) := by decide +kernel
theorem dX1_addPart_80 : decode cX1_addPart 80 = .ok (.iconst 0, 1) := by decide +kernel
theorem dX1_addPart_81 : decode cX1_addPart 81 = .ok (.istore 9, 2) := by decide +kernel
theorem dX1_addPart_83 : decode cX1_addPart 83 = .ok (.iload 9, 2) := by decide +kernel
theorem dX1_addPart_85 : decode cX1_addPart 85 = .ok (.iload 8, 2) := by decide +kernel
theorem dX1_addPart_87 : decode cX1_addPart 87 = .ok (.if_icmp .ge 87, 3) := by decide +kernel
theorem dX1_addPart_90 : decode cX1_addPart 90 = .ok (.aload_n 1, 1) := by decide +kernel
theorem dX1_addPart_91 : decode cX1_addPart 91 = .ok (.iload 9, 2) := by decide +kernel
theorem dX1_addPart_93 : decode cX1_addPart 93 = .ok (.invokevirtual 75, 3) := by decide +kernel
theorem dX1_addPart_96 : decode cX1_addPart 96 = .ok (.iload_n 3, 1) := by decide +kernel
theorem dX1_addPart_97 : decode cX1_addPart 97 = .ok (.if_icmp .ne 12, 3) := by decide +kernel
theorem dX1_addPart_100 : decode cX1_addPart 100 = .ok (.aload_n 1, 1) := by decide +kernel
theorem dX1_addPart_101 : decode cX1_addPart 101 = .ok (.iload 9, 2) := by decide +kernel
theorem dX1_addPart_103 : decode cX1_addPart 103 = .ok (.invokevirtual 78, 3) := by decide +kernel
theorem dX1_addPart_106 : decode cX1_addPart 106 = .ok (.goto 4, 3) := by decide +kernel
theorem dX1_addPart_109 : decode cX1_addPart 109 = .ok (.iconst (-1), 1) := by decide +kernel
theorem dX1_addPart_110 : decode cX1_addPart 110 = .ok (.istore 10, 2) := by decide +kernel
theorem dX1_addPart_112 : decode cX1_addPart 112 = .ok (.iload 10, 2) := by decide +kernel
theorem dX1_addPart_114 : decode cX1_addPart 114 = .ok (.ifCond .ne 15, 3) := by decide +kernel
theorem dX1_addPart_117 : decode cX1_addPart 117 = .ok (.aload_n 0, 1) := by decide +kernel
theorem dX1_addPart_118 : decode cX1_addPart 118 = .ok (.aload 4, 2) := by decide +kernel
theorem dX1_addPart_120 : decode cX1_addPart 120 = .ok (.getfield 81, 3) := by decide +kernel
theorem dX1_addPart_123 : decode cX1_addPart 123 = .ok (.invokevirtual 67, 3) := by decide +kernel
theorem dX1_addPart_126 : decode cX1_addPart 126 = .ok (.goto 42, 3) := by decide +kernel
theorem dX1_addPart_129 : decode cX1_addPart 129 = .ok (.iload 10, 2) := by decide +kernel
theorem dX1_addPart_131 : decode cX1_addPart 131 = .ok (.iconst 1, 1) := by decide +kernel
theorem dX1_addPart_132 : decode cX1_addPart 132 = .ok (.if_icmp .ne 18, 3) := by decide +kernel
theorem dX1_addPart_135 : decode cX1_addPart 135 = .ok (.aload_n 0, 1) := by decide +kernel
theorem dX1_addPart_136 : decode cX1_addPart 136 = .ok (.aload_n 1, 1) := by decide +kernel
theorem dX1_addPart_137 : decode cX1_addPart 137 = .ok (.aload_n 2, 1) := by decide +kernel
theorem dX1_addPart_138 : decode cX1_addPart 138 = .ok (.iload 9, 2) := by decide +kernel
theorem dX1_addPart_140 : decode cX1_addPart 140 = .ok (.aload 4, 2) := by decide +kernel
theorem dX1_addPart_142 : decode cX1_addPart 142 = .ok (.iload 5, 2) := by decide +kernel
theorem dX1_addPart_144 : decode cX1_addPart 144 = .ok (.invokevirtual 84, 3) := by decide +kernel
theorem dX1_addPart_147 : decode cX1_addPart 147 = .ok (.goto 21, 3) := by decide +kernel
theorem dX1_addPart_150 : decode cX1_addPart 150 = .ok (.iload 10, 2) := by decide +kernel
theorem dX1_addPart_152 : decode cX1_addPart 152 = .ok (.iconst 2, 1) := by decide +kernel
theorem dX1_addPart_153 : decode cX1_addPart 153 = .ok (.if_icmp .ne 15, 3) := by decide +kernel
theorem dX1_addPart_156 : decode cX1_addPart 156 = .ok (.aload_n 0, 1) := by decide +kernel
theorem dX1_addPart_157 : decode cX1_addPart 157 = .ok (.aload_n 1, 1) := by decide +kernel
theorem dX1_addPart_158 : decode cX1_addPart 158 = .ok (.aload_n 2, 1) := by decide +kernel
theorem dX1_addPart_159 : decode cX1_addPart 159 = .ok (.iload 9, 2) := by decide +kernel
theorem dX1_addPart_161 : decode cX1_addPart 161 = .ok (.aload 4, 2) := by decide +kernel
theorem dX1_addPart_163 : decode cX1_addPart 163 = .ok (.iload 5, 2) := by decide +kernel
theorem dX1_addPart_165 : decode cX1_addPart 165 = .ok (.invokevirtual 87, 3) := by decide +kernel
theorem dX1_addPart_168 : decode cX1_addPart 168 = .ok (.iinc 9 1, 3) := by decide +kernel
theorem dX1_addPart_171 : decode cX1_addPart 171 = .ok (.goto (-88), 3) := by decide +kernel
theorem dX1_addPart_174 : decode cX1_addPart 174 = .ok (.aload_n 0, 1) := by decide +kernel
theorem dX1_addPart_175 : decode cX1_addPart 175 = .ok (.sipush 30000, 3) := by decide +kernel
theorem dX1_addPart_178 : decode cX1_addPart 178 = .ok (.invokevirtual 67, 3) := by decide +kernel
theorem dX1_addPart_181 : decode cX1_addPart 181 = .ok (.return_, 1) := by decide +kernel
theorem dX1_addUp_0 : decode cX1_addUp 0 = .ok (.aload_n 1, 1) := by decide +kernel
theorem dX1_addUp_1 : decode cX1_addUp 1 = .ok (.iload_n 3, 1) := by decide +kernel
theorem dX1_addUp_2 : decode cX1_addUp 2 = .ok (.invokevirtual 90, 3) := by decide +kernel
theorem dX1_addUp_5 : decode cX1_addUp 5 = .ok (.istore 6, 2) := by decide +kernel
theorem dX1_addUp_7 : decode cX1_addUp 7 = .ok (.aload_n 2, 1) := by decide +kernel
theorem dX1_addUp_8 : decode cX1_addUp 8 = .ok (.aload 4, 2) := by decide +kernel
theorem dX1_addUp_10 : decode cX1_addUp 10 = .ok (.aload_n 1, 1) := by decide +kernel
theorem dX1_addUp_11 : decode cX1_addUp 11 = .ok (.iload_n 3, 1) := by decide +kernel
theorem dX1_addUp_12 : decode cX1_addUp 12 = .ok (.invokevirtual 93, 3) := by decide +kernel
theorem dX1_addUp_15 : decode cX1_addUp 15 = .ok (.invokevirtual 96, 3) := by decide +kernel
theorem dX1_addUp_18 : decode cX1_addUp 18 = .ok (.invokevirtual 40, 3) := by decide +kernel
theorem dX1_addUp_21 : decode cX1_addUp 21 = .ok (.astore 7, 2) := by decide +kernel
theorem dX1_addUp_23 : decode cX1_addUp 23 = .ok (.aload 7, 2) := by decide +kernel
theorem dX1_addUp_25 : decode cX1_addUp 25 = .ok (.ifnull 31, 3) := by decide +kernel
theorem dX1_addUp_28 : decode cX1_addUp 28 = .ok (.aload 7, 2) := by decide +kernel
theorem dX1_addUp_30 : decode cX1_addUp 30 = .ok (.getfield 46, 3) := by decide +kernel
theorem dX1_addUp_33 : decode cX1_addUp 33 = .ok (.aload_n 1, 1) := by decide +kernel
theorem dX1_addUp_34 : decode cX1_addUp 34 = .ok (.iload 6, 2) := by decide +kernel
theorem dX1_addUp_36 : decode cX1_addUp 36 = .ok (.invokevirtual 51, 3) := by decide +kernel
theorem dX1_addUp_39 : decode cX1_addUp 39 = .ok (.if_icmp .ne 17, 3) := by decide +kernel
theorem dX1_addUp_42 : decode cX1_addUp 42 = .ok (.aload_n 0, 1) := by decide +kernel
theorem dX1_addUp_43 : decode cX1_addUp 43 = .ok (.aload_n 1, 1) := by decide +kernel
theorem dX1_addUp_44 : decode cX1_addUp 44 = .ok (.aload_n 2, 1) := by decide +kernel
theorem dX1_addUp_45 : decode cX1_addUp 45 = .ok (.iload 6, 2) := by decide +kernel
theorem dX1_addUp_47 : decode cX1_addUp 47 = .ok (.aload 7, 2) := by decide +kernel
theorem dX1_addUp_49 : decode cX1_addUp 49 = .ok (.iload 5, 2) := by decide +kernel
theorem dX1_addUp_51 : decode cX1_addUp 51 = .ok (.iconst 1, 1) := by decide +kernel
theorem dX1_addUp_52 : decode cX1_addUp 52 = .ok (.iadd, 1) := by decide +kernel
theorem dX1_addUp_53 : decode cX1_addUp 53 = .ok (.invokevirtual 56, 3) := by decide +kernel
theorem dX1_addUp_56 : decode cX1_addUp 56 = .ok (.return_, 1) := by decide +kernel
theorem dX1_addDown_0 : decode cX1_addDown 0 = .ok (.aload_n 1, 1) := by decide +kernel
theorem dX1_addDown_1 : decode cX1_addDown 1 = .ok (.iload_n 3, 1) := by decide +kernel
theorem dX1_addDown_2 : decode cX1_addDown 2 = .ok (.invokevirtual 90, 3) := by decide +kernel
theorem dX1_addDown_5 : decode cX1_addDown 5 = .ok (.istore 6, 2) := by decide +kernel
theorem dX1_addDown_7 : decode cX1_addDown 7 = .ok (.aload_n 1, 1) := by decide +kernel
theorem dX1_addDown_8 : decode cX1_addDown 8 = .ok (.iload_n 3, 1) := by decide +kernel
theorem dX1_addDown_9 : decode cX1_addDown 9 = .ok (.invokevirtual 93, 3) := by decide +kernel
theorem dX1_addDown_12 : decode cX1_addDown 12 = .ok (.istore 7, 2) := by decide +kernel
theorem dX1_addDown_14 : decode cX1_addDown 14 = .ok (.aload_n 2, 1) := by decide +kernel
theorem dX1_addDown_15 : decode cX1_addDown 15 = .ok (.invokevirtual 99, 3) := by decide +kernel
theorem dX1_addDown_18 : decode cX1_addDown 18 = .ok (.istore 8, 2) := by decide +kernel
theorem dX1_addDown_20 : decode cX1_addDown 20 = .ok (.iconst 0, 1) := by decide +kernel
theorem dX1_addDown_21 : decode cX1_addDown 21 = .ok (.istore 9, 2) := by decide +kernel
theorem dX1_addDown_23 : decode cX1_addDown 23 = .ok (.iload 9, 2) := by decide +kernel
theorem dX1_addDown_25 : decode cX1_addDown 25 = .ok (.iload 8, 2) := by decide +kernel
theorem dX1_addDown_27 : decode cX1_addDown 27 = .ok (.if_icmp .ge 72, 3) := by decide +kernel
theorem dX1_addDown_30 : decode cX1_addDown 30 = .ok (.aload_n 0, 1) := by decide +kernel
theorem dX1_addDown_31 : decode cX1_addDown 31 = .ok (.invokevirtual 60, 3) := by decide +kernel
theorem dX1_addDown_34 : decode cX1_addDown 34 = .ok (.ifCond .ne 65, 3) := by decide +kernel
theorem dX1_addDown_37 : decode cX1_addDown 37 = .ok (.aload_n 2, 1) := by decide +kernel
theorem dX1_addDown_38 : decode cX1_addDown 38 = .ok (.iload 9, 2) := by decide +kernel
theorem dX1_addDown_40 : decode cX1_addDown 40 = .ok (.invokevirtual 40, 3) := by decide +kernel
theorem dX1_addDown_43 : decode cX1_addDown 43 = .ok (.astore 10, 2) := by decide +kernel
theorem dX1_addDown_45 : decode cX1_addDown 45 = .ok (.aload 10, 2) := by decide +kernel
theorem dX1_addDown_47 : decode cX1_addDown 47 = .ok (.ifnull 46, 3) := by decide +kernel
theorem dX1_addDown_50 : decode cX1_addDown 50 = .ok (.aload 10, 2) := by decide +kernel
theorem dX1_addDown_52 : decode cX1_addDown 52 = .ok (.getfield 46, 3) := by decide +kernel
theorem dX1_addDown_55 : decode cX1_addDown 55 = .ok (.aload_n 1, 1) := by decide +kernel
theorem dX1_addDown_56 : decode cX1_addDown 56 = .ok (.iload 6, 2) := by decide +kernel
theorem dX1_addDown_58 : decode cX1_addDown 58 = .ok (.invokevirtual 51, 3) := by decide +kernel
theorem dX1_addDown_61 : decode cX1_addDown 61 = .ok (.if_icmp .ne 32, 3) := by decide +kernel
theorem dX1_addDown_64 : decode cX1_addDown 64 = .ok (.aload 10, 2) := by decide +kernel
theorem dX1_addDown_66 : decode cX1_addDown 66 = .ok (.iload 7, 2) := by decide +kernel
theorem dX1_addDown_68 : decode cX1_addDown 68 = .ok (.invokevirtual 96, 3) := by decide +kernel
theorem dX1_addDown_71 : decode cX1_addDown 71 = .ok (.aload 4, 2) := by decide +kernel
theorem dX1_addDown_73 : decode cX1_addDown 73 = .ok (.getfield 64, 3) := by decide +kernel
theorem dX1_addDown_76 : decode cX1_addDown 76 = .ok (.if_icmp .ne 17, 3) := by decide +kernel
theorem dX1_addDown_79 : decode cX1_addDown 79 = .ok (.aload_n 0, 1) := by decide +kernel
theorem dX1_addDown_80 : decode cX1_addDown 80 = .ok (.aload_n 1, 1) := by decide +kernel
theorem dX1_addDown_81 : decode cX1_addDown 81 = .ok (.aload_n 2, 1) := by decide +kernel
theorem dX1_addDown_82 : decode cX1_addDown 82 = .ok (.iload 6, 2) := by decide +kernel
theorem dX1_addDown_84 : decode cX1_addDown 84 = .ok (.aload 10, 2) := by decide +kernel
theorem dX1_addDown_86 : decode cX1_addDown 86 = .ok (.iload 5, 2) := by decide +kernel
theorem dX1_addDown_88 : decode cX1_addDown 88 = .ok (.iconst 1, 1) := by decide +kernel
theorem dX1_addDown_89 : decode cX1_addDown 89 = .ok (.iadd, 1) := by decide +kernel
theorem dX1_addDown_90 : decode cX1_addDown 90 = .ok (.invokevirtual 56, 3) := by decide +kernel
theorem dX1_addDown_93 : decode cX1_addDown 93 = .ok (.iinc 9 1, 3) := by decide +kernel
theorem dX1_addDown_96 : decode cX1_addDown 96 = .ok (.goto (-73), 3) := by decide +kernel
theorem dX1_addDown_99 : decode cX1_addDown 99 = .ok (.return_, 1) := by decide +kernel
theorem dX1_isFull_0 : decode cX1_isFull 0 = .ok (.aload_n 0, 1) := by decide +kernel
theorem dX1_isFull_1 : decode cX1_isFull 1 = .ok (.getfield 15, 3) := by decide +kernel
theorem dX1_isFull_4 : decode cX1_isFull 4 = .ok (.aload_n 0, 1) := by decide +kernel
theorem dX1_isFull_5 : decode cX1_isFull 5 = .ok (.getfield 9, 3) := by decide +kernel
theorem dX1_isFull_8 : decode cX1_isFull 8 = .ok (.arraylength, 1) := by decide +kernel
theorem dX1_isFull_9 : decode cX1_isFull 9 = .ok (.if_icmp .lt 7, 3) := by decide +kernel
theorem dX1_isFull_12 : decode cX1_isFull 12 = .ok (.iconst 1, 1) := by decide +kernel
theorem dX1_isFull_13 : decode cX1_isFull 13 = .ok (.goto 4, 3) := by decide +kernel
theorem dX1_isFull_16 : decode cX1_isFull 16 = .ok (.iconst 0, 1) := by decide +kernel
theorem dX1_isFull_17 : decode cX1_isFull 17 = .ok (.ireturn, 1) := by decide +kernel
theorem dX1_add_0 : decode cX1_add 0 = .ok (.aload_n 0, 1) := by decide +kernel
theorem dX1_add_1 : decode cX1_add 1 = .ok (.getfield 15, 3) := by decide +kernel
theorem dX1_add_4 : decode cX1_add 4 = .ok (.ifCond .lt 15, 3) := by decide +kernel
theorem dX1_add_7 : decode cX1_add 7 = .ok (.aload_n 0, 1) := by decide +kernel
theorem dX1_add_8 : decode cX1_add 8 = .ok (.getfield 15, 3) := by decide +kernel
theorem dX1_add_11 : decode cX1_add 11 = .ok (.aload_n 0, 1) := by decide +kernel
theorem dX1_add_12 : decode cX1_add 12 = .ok (.getfield 9, 3) := by decide +kernel
theorem dX1_add_15 : decode cX1_add 15 = .ok (.arraylength, 1) := by decide +kernel
theorem dX1_add_16 : decode cX1_add 16 = .ok (.if_icmp .lt 4, 3) := by decide +kernel
theorem dX1_add_19 : decode cX1_add 19 = .ok (.return_, 1) := by decide +kernel
theorem dX1_add_20 : decode cX1_add 20 = .ok (.aload_n 0, 1) := by decide +kernel
theorem dX1_add_21 : decode cX1_add 21 = .ok (.getfield 9, 3) := by decide +kernel
theorem dX1_add_24 : decode cX1_add 24 = .ok (.aload_n 0, 1) := by decide +kernel
theorem dX1_add_25 : decode cX1_add 25 = .ok (.getfield 15, 3) := by decide +kernel
theorem dX1_add_28 : decode cX1_add 28 = .ok (.iload_n 1, 1) := by decide +kernel
theorem dX1_add_29 : decode cX1_add 29 = .ok (.iastore, 1) := by decide +kernel
theorem dX1_add_30 : decode cX1_add 30 = .ok (.aload_n 0, 1) := by decide +kernel
theorem dX1_add_31 : decode cX1_add 31 = .ok (.dup, 1) := by decide +kernel
theorem dX1_add_32 : decode cX1_add 32 = .ok (.getfield 15, 3) := by decide +kernel
theorem dX1_add_35 : decode cX1_add 35 = .ok (.iconst 1, 1) := by decide +kernel
theorem dX1_add_36 : decode cX1_add 36 = .ok (.iadd, 1) := by decide +kernel
theorem dX1_add_37 : decode cX1_add 37 = .ok (.putfield 15, 3) := by decide +kernel
theorem dX1_add_40 : decode cX1_add 40 = .ok (.return_, 1) := by decide +kernel
theorem dX3_init_0 : decode cX3_init 0 = .ok (.aload_n 0, 1) := by decide +kernel
theorem dX3_init_1 : decode cX3_init 1 = .ok (.invokespecial 1, 3) := by decide +kernel
theorem dX3_init_4 : decode cX3_init 4 = .ok (.aload_n 0, 1) := by decide +kernel
theorem dX3_init_5 : decode cX3_init 5 = .ok (.new 7, 3) := by decide +kernel
theorem dX3_init_8 : decode cX3_init 8 = .ok (.dup, 1) := by decide +kernel
theorem dX3_init_9 : decode cX3_init 9 = .ok (.invokespecial 9, 3) := by decide +kernel
theorem dX3_init_12 : decode cX3_init 12 = .ok (.putfield 10, 3) := by decide +kernel
theorem dX3_init_15 : decode cX3_init 15 = .ok (.aload_n 0, 1) := by decide +kernel
theorem dX3_init_16 : decode cX3_init 16 = .ok (.iload_n 1, 1) := by decide +kernel
theorem dX3_init_17 : decode cX3_init 17 = .ok (.putfield 16, 3) := by decide +kernel
theorem dX3_init_20 : decode cX3_init 20 = .ok (.return_, 1) := by decide +kernel
theorem dX4_init_0 : decode cX4_init 0 = .ok (.aload_n 0, 1) := by decide +kernel
theorem dX4_init_1 : decode cX4_init 1 = .ok (.invokespecial 1, 3) := by decide +kernel
theorem dX4_init_4 : decode cX4_init 4 = .ok (.aload_n 0, 1) := by decide +kernel
theorem dX4_init_5 : decode cX4_init 5 = .ok (.iload_n 1, 1) := by decide +kernel
theorem dX4_init_6 : decode cX4_init 6 = .ok (.putfield 7, 3) := by decide +kernel
theorem dX4_init_9 : decode cX4_init 9 = .ok (.aload_n 0, 1) := by decide +kernel
theorem dX4_init_10 : decode cX4_init 10 = .ok (.iload_n 2, 1) := by decide +kernel
theorem dX4_init_11 : decode cX4_init 11 = .ok (.putfield 13, 3) := by decide +kernel
theorem dX4_init_14 : decode cX4_init 14 = .ok (.aload_n 0, 1) := by decide +kernel
theorem dX4_init_15 : decode cX4_init 15 = .ok (.iload_n 3, 1) := by decide +kernel
theorem dX4_init_16 : decode cX4_init 16 = .ok (.putfield 16, 3) := by decide +kernel
theorem dX4_init_19 : decode cX4_init 19 = .ok (.aload_n 0, 1) := by decide +kernel
theorem dX4_init_20 : decode cX4_init 20 = .ok (.iload 4, 2) := by decide +kernel
theorem dX4_init_22 : decode cX4_init 22 = .ok (.putfield 19, 3) := by decide +kernel
theorem dX4_init_25 : decode cX4_init 25 = .ok (.aload_n 0, 1) := by decide +kernel
theorem dX4_init_26 : decode cX4_init 26 = .ok (.iload 5, 2) := by decide +kernel
theorem dX4_init_28 : decode cX4_init 28 = .ok (.putfield 22, 3) := by decide +kernel
theorem dX4_init_31 : decode cX4_init 31 = .ok (.aload_n 0, 1) := by decide +kernel
theorem dX4_init_32 : decode cX4_init 32 = .ok (.iload 6, 2) := by decide +kernel
theorem dX4_init_34 : decode cX4_init 34 = .ok (.putfield 25, 3) := by decide +kernel
theorem dX4_init_37 : decode cX4_init 37 = .ok (.return_, 1) := by decide +kernel
theorem dX4_withValue_0 : decode cX4_withValue 0 = .ok (.new 8, 3) := by decide +kernel
theorem dX4_withValue_3 : decode cX4_withValue 3 = .ok (.dup, 1) := by decide +kernel
theorem dX4_withValue_4 : decode cX4_withValue 4 = .ok (.aload_n 0, 1) := by decide +kernel
theorem dX4_withValue_5 : decode cX4_withValue 5 = .ok (.getfield 7, 3) := by decide +kernel
theorem dX4_withValue_8 : decode cX4_withValue 8 = .ok (.aload_n 0, 1) := by decide +kernel
theorem dX4_withValue_9 : decode cX4_withValue 9 = .ok (.getfield 13, 3) := by decide +kernel
theorem dX4_withValue_12 : decode cX4_withValue 12 = .ok (.iload_n 1, 1) := by decide +kernel
theorem dX4_withValue_13 : decode cX4_withValue 13 = .ok (.aload_n 0, 1) := by decide +kernel
theorem dX4_withValue_14 : decode cX4_withValue 14 = .ok (.getfield 19, 3) := by decide +kernel
theorem dX4_withValue_17 : decode cX4_withValue 17 = .ok (.aload_n 0, 1) := by decide +kernel
theorem dX4_withValue_18 : decode cX4_withValue 18 = .ok (.getfield 22, 3) := by decide +kernel
theorem dX4_withValue_21 : decode cX4_withValue 21 = .ok (.aload_n 0, 1) := by decide +kernel
theorem dX4_withValue_22 : decode cX4_withValue 22 = .ok (.getfield 25, 3) := by decide +kernel
theorem dX4_withValue_25 : decode cX4_withValue 25 = .ok (.invokespecial 29, 3) := by decide +kernel
theorem dX4_withValue_28 : decode cX4_withValue 28 = .ok (.areturn, 1) := by decide +kernel
theorem dX4_withReference_0 : decode cX4_withReference 0 = .ok (.new 8, 3) := by decide +kernel
theorem dX4_withReference_3 : decode cX4_withReference 3 = .ok (.dup, 1) := by decide +kernel
theorem dX4_withReference_4 : decode cX4_withReference 4 = .ok (.aload_n 0, 1) := by decide +kernel
theorem dX4_withReference_5 : decode cX4_withReference 5 = .ok (.getfield 7, 3) := by decide +kernel
theorem dX4_withReference_8 : decode cX4_withReference 8 = .ok (.aload_n 0, 1) := by decide +kernel
theorem dX4_withReference_9 : decode cX4_withReference 9 = .ok (.getfield 13, 3) := by decide +kernel
theorem dX4_withReference_12 : decode cX4_withReference 12 = .ok (.aload_n 0, 1) := by decide +kernel
theorem dX4_withReference_13 : decode cX4_withReference 13 = .ok (.getfield 16, 3) := by decide +kernel
theorem dX4_withReference_16 : decode cX4_withReference 16 = .ok (.iload_n 1, 1) := by decide +kernel
theorem dX4_withReference_17 : decode cX4_withReference 17 = .ok (.ifCond .ne 7, 3) := by decide +kernel
theorem dX4_withReference_20 : decode cX4_withReference 20 = .ok (.iload_n 2, 1) := by decide +kernel
theorem dX4_withReference_21 : decode cX4_withReference 21 = .ok (.goto 7, 3) := by decide +kernel
theorem dX4_withReference_24 : decode cX4_withReference 24 = .ok (.aload_n 0, 1) := by decide +kernel
theorem dX4_withReference_25 : decode cX4_withReference 25 = .ok (.getfield 19, 3) := by decide +kernel
theorem dX4_withReference_28 : decode cX4_withReference 28 = .ok (.iload_n 1, 1) := by decide +kernel
theorem dX4_withReference_29 : decode cX4_withReference 29 = .ok (.iconst 1, 1) := by decide +kernel
theorem dX4_withReference_30 : decode cX4_withReference 30 = .ok (.if_icmp .ne 7, 3) := by decide +kernel
theorem dX4_withReference_33 : decode cX4_withReference 33 = .ok (.iload_n 2, 1) := by decide +kernel
theorem dX4_withReference_34 : decode cX4_withReference 34 = .ok (.goto 7, 3) := by decide +kernel
theorem dX4_withReference_37 : decode cX4_withReference 37 = .ok (.aload_n 0, 1) := by decide +kernel
theorem dX4_withReference_38 : decode cX4_withReference 38 = .ok (.getfield 22, 3) := by decide +kernel
theorem dX4_withReference_41 : decode cX4_withReference 41 = .ok (.aload_n 0, 1) := by decide +kernel
theorem dX4_withReference_42 : decode cX4_withReference 42 = .ok (.getfield 25, 3) := by decide +kernel
theorem dX4_withReference_45 : decode cX4_withReference 45 = .ok (.invokespecial 29, 3) := by decide +kernel
theorem dX4_withReference_48 : decode cX4_withReference 48 = .ok (.areturn, 1) := by decide +kernel
theorem dX4_gone_0 : decode cX4_gone 0 = .ok (.new 8, 3) := by decide +kernel
theorem dX4_gone_3 : decode cX4_gone 3 = .ok (.dup, 1) := by decide +kernel
theorem dX4_gone_4 : decode cX4_gone 4 = .ok (.aload_n 0, 1) := by decide +kernel
theorem dX4_gone_5 : decode cX4_gone 5 = .ok (.getfield 7, 3) := by decide +kernel
theorem dX4_gone_8 : decode cX4_gone 8 = .ok (.aload_n 0, 1) := by decide +kernel
theorem dX4_gone_9 : decode cX4_gone 9 = .ok (.getfield 13, 3) := by decide +kernel
theorem dX4_gone_12 : decode cX4_gone 12 = .ok (.aload_n 0, 1) := by decide +kernel
theorem dX4_gone_13 : decode cX4_gone 13 = .ok (.getfield 16, 3) := by decide +kernel
theorem dX4_gone_16 : decode cX4_gone 16 = .ok (.aload_n 0, 1) := by decide +kernel
theorem dX4_gone_17 : decode cX4_gone 17 = .ok (.getfield 19, 3) := by decide +kernel
theorem dX4_gone_20 : decode cX4_gone 20 = .ok (.aload_n 0, 1) := by decide +kernel
theorem dX4_gone_21 : decode cX4_gone 21 = .ok (.getfield 22, 3) := by decide +kernel
theorem dX4_gone_24 : decode cX4_gone 24 = .ok (.iconst 0, 1) := by decide +kernel
theorem dX4_gone_25 : decode cX4_gone 25 = .ok (.invokespecial 29, 3) := by decide +kernel
theorem dX4_gone_28 : decode cX4_gone 28 = .ok (.areturn, 1) := by decide +kernel
theorem dX4_referenceBy_0 : decode cX4_referenceBy 0 = .ok (.iload_n 1, 1) := by decide +kernel
theorem dX4_referenceBy_1 : decode cX4_referenceBy 1 = .ok (.ifCond .ne 10, 3) := by decide +kernel
theorem dX4_referenceBy_4 : decode cX4_referenceBy 4 = .ok (.aload_n 0, 1) := by decide +kernel
theorem dX4_referenceBy_5 : decode cX4_referenceBy 5 = .ok (.getfield 19, 3) := by decide +kernel
theorem dX4_referenceBy_8 : decode cX4_referenceBy 8 = .ok (.goto 7, 3) := by decide +kernel
theorem dX4_referenceBy_11 : decode cX4_referenceBy 11 = .ok (.aload_n 0, 1) := by decide +kernel
theorem dX4_referenceBy_12 : decode cX4_referenceBy 12 = .ok (.getfield 22, 3) := by decide +kernel
theorem dX4_referenceBy_15 : decode cX4_referenceBy 15 = .ok (.ireturn, 1) := by decide +kernel
theorem dX5_init_0 : decode cX5_init 0 = .ok (.aload_n 0, 1) := by decide +kernel
theorem dX5_init_1 : decode cX5_init 1 = .ok (.invokespecial 3, 3) := by decide +kernel
theorem dX5_init_4 : decode cX5_init 4 = .ok (.aload_n 0, 1) := by decide +kernel
theorem dX5_init_5 : decode cX5_init 5 = .ok (.bipush 60, 2) := by decide +kernel
theorem dX5_init_7 : decode cX5_init 7 = .ok (.anewarray 9, 3) := by decide +kernel
theorem dX5_init_10 : decode cX5_init 10 = .ok (.putfield 11, 3) := by decide +kernel
theorem dX5_init_13 : decode cX5_init 13 = .ok (.aload_n 0, 1) := by decide +kernel
theorem dX5_init_14 : decode cX5_init 14 = .ok (.iconst 0, 1) := by decide +kernel
theorem dX5_init_15 : decode cX5_init 15 = .ok (.putfield 17, 3) := by decide +kernel
theorem dX5_init_18 : decode cX5_init 18 = .ok (.return_, 1) := by decide +kernel
theorem dX5_known_0 : decode cX5_known 0 = .ok (.aload_n 0, 1) := by decide +kernel
theorem dX5_known_1 : decode cX5_known 1 = .ok (.getfield 17, 3) := by decide +kernel
theorem dX5_known_4 : decode cX5_known 4 = .ok (.ireturn, 1) := by decide +kernel
theorem dX5_isFull_0 : decode cX5_isFull 0 = .ok (.aload_n 0, 1) := by decide +kernel
theorem dX5_isFull_1 : decode cX5_isFull 1 = .ok (.getfield 17, 3) := by decide +kernel
theorem dX5_isFull_4 : decode cX5_isFull 4 = .ok (.aload_n 0, 1) := by decide +kernel
theorem dX5_isFull_5 : decode cX5_isFull 5 = .ok (.getfield 11, 3) := by decide +kernel
theorem dX5_isFull_8 : decode cX5_isFull 8 = .ok (.arraylength, 1) := by decide +kernel
theorem dX5_isFull_9 : decode cX5_isFull 9 = .ok (.if_icmp .lt 7, 3) := by decide +kernel
theorem dX5_isFull_12 : decode cX5_isFull 12 = .ok (.iconst 1, 1) := by decide +kernel
theorem dX5_isFull_13 : decode cX5_isFull 13 = .ok (.goto 4, 3) := by decide +kernel
theorem dX5_isFull_16 : decode cX5_isFull 16 = .ok (.iconst 0, 1) := by decide +kernel
theorem dX5_isFull_17 : decode cX5_isFull 17 = .ok (.ireturn, 1) := by decide +kernel
theorem dX5_at_0 : decode cX5_at 0 = .ok (.iload_n 1, 1) := by decide +kernel
theorem dX5_at_1 : decode cX5_at 1 = .ok (.ifCond .lt 21, 3) := by decide +kernel
theorem dX5_at_4 : decode cX5_at 4 = .ok (.iload_n 1, 1) := by decide +kernel
theorem dX5_at_5 : decode cX5_at 5 = .ok (.aload_n 0, 1) := by decide +kernel
theorem dX5_at_6 : decode cX5_at 6 = .ok (.getfield 11, 3) := by decide +kernel
theorem dX5_at_9 : decode cX5_at 9 = .ok (.arraylength, 1) := by decide +kernel
theorem dX5_at_10 : decode cX5_at 10 = .ok (.if_icmp .ge 12, 3) := by decide +kernel
theorem dX5_at_13 : decode cX5_at 13 = .ok (.aload_n 0, 1) := by decide +kernel
theorem dX5_at_14 : decode cX5_at 14 = .ok (.getfield 11, 3) := by decide +kernel
theorem dX5_at_17 : decode cX5_at 17 = .ok (.iload_n 1, 1) := by decide +kernel
theorem dX5_at_18 : decode cX5_at 18 = .ok (.aaload, 1) := by decide +kernel
theorem dX5_at_19 : decode cX5_at 19 = .ok (.goto 4, 3) := by decide +kernel
theorem dX5_at_22 : decode cX5_at 22 = .ok (.aconst_null, 1) := by decide +kernel
theorem dX5_at_23 : decode cX5_at 23 = .ok (.areturn, 1) := by decide +kernel
theorem dX5_standing_0 : decode cX5_standing 0 = .ok (.aload_n 0, 1) := by decide +kernel
theorem dX5_standing_1 : decode cX5_standing 1 = .ok (.iload_n 1, 1) := by decide +kernel
theorem dX5_standing_2 : decode cX5_standing 2 = .ok (.invokevirtual 21, 3) := by decide +kernel
theorem dX5_standing_5 : decode cX5_standing 5 = .ok (.astore_n 2, 1) := by decide +kernel
theorem dX5_standing_6 : decode cX5_standing 6 = .ok (.aload_n 2, 1) := by decide +kernel
theorem dX5_standing_7 : decode cX5_standing 7 = .ok (.ifnull 14, 3) := by decide +kernel
theorem dX5_standing_10 : decode cX5_standing 10 = .ok (.aload_n 2, 1) := by decide +kernel
theorem dX5_standing_11 : decode cX5_standing 11 = .ok (.getfield 25, 3) := by decide +kernel
theorem dX5_standing_14 : decode cX5_standing 14 = .ok (.ifCond .eq 7, 3) := by decide +kernel
theorem dX5_standing_17 : decode cX5_standing 17 = .ok (.aload_n 2, 1) := by decide +kernel
theorem dX5_standing_18 : decode cX5_standing 18 = .ok (.goto 4, 3) := by decide +kernel
theorem dX5_standing_21 : decode cX5_standing 21 = .ok (.aconst_null, 1) := by decide +kernel
theorem dX5_standing_22 : decode cX5_standing 22 = .ok (.areturn, 1) := by decide +kernel
theorem dX5_standingOnes_0 : decode cX5_standingOnes 0 = .ok (.iconst 0, 1) := by decide +kernel
theorem dX5_standingOnes_1 : decode cX5_standingOnes 1 = .ok (.istore_n 1, 1) := by decide +kernel
theorem dX5_standingOnes_2 : decode cX5_standingOnes 2 = .ok (.iconst 0, 1) := by decide +kernel
theorem dX5_standingOnes_3 : decode cX5_standingOnes 3 = .ok (.istore_n 2, 1) := by decide +kernel
theorem dX5_standingOnes_4 : decode cX5_standingOnes 4 = .ok (.iload_n 2, 1) := by decide +kernel
theorem dX5_standingOnes_5 : decode cX5_standingOnes 5 = .ok (.aload_n 0, 1) := by decide +kernel
theorem dX5_standingOnes_6 : decode cX5_standingOnes 6 = .ok (.getfield 11, 3) := by decide +kernel
theorem dX5_standingOnes_9 : decode cX5_standingOnes 9 = .ok (.arraylength, 1) := by decide +kernel
theorem dX5_standingOnes_10 : decode cX5_standingOnes 10 = .ok (.if_icmp .ge 20, 3) := by decide +kernel
theorem dX5_standingOnes_13 : decode cX5_standingOnes 13 = .ok (.aload_n 0, 1) := by decide +kernel
theorem dX5_standingOnes_14 : decode cX5_standingOnes 14 = .ok (.iload_n 2, 1) := by decide +kernel
theorem dX5_standingOnes_15 : decode cX5_standingOnes 15 = .ok (.invokevirtual 29, 3) := by decide +kernel
theorem dX5_standingOnes_18 : decode cX5_standingOnes 18 = .ok (.ifnull 6, 3) := by decide +kernel
theorem dX5_standingOnes_21 : decode cX5_standingOnes 21 = .ok (.iinc 1 1, 3) := by decide +kernel
theorem dX5_standingOnes_24 : decode cX5_standingOnes 24 = .ok (.iinc 2 1, 3) := by decide +kernel
theorem dX5_standingOnes_27 : decode cX5_standingOnes 27 = .ok (.goto (-23), 3) := by decide +kernel
theorem dX5_standingOnes_30 : decode cX5_standingOnes 30 = .ok (.iload_n 1, 1) := by decide +kernel
theorem dX5_standingOnes_31 : decode cX5_standingOnes 31 = .ok (.ireturn, 1) := by decide +kernel
theorem dX5_put_0 : decode cX5_put 0 = .ok (.aload_n 1, 1) := by decide +kernel
theorem dX5_put_1 : decode cX5_put 1 = .ok (.getfield 32, 3) := by decide +kernel
theorem dX5_put_4 : decode cX5_put 4 = .ok (.istore_n 2, 1) := by decide +kernel
theorem dX5_put_5 : decode cX5_put 5 = .ok (.iload_n 2, 1) := by decide +kernel
theorem dX5_put_6 : decode cX5_put 6 = .ok (.ifCond .lt 12, 3) := by decide +kernel
theorem dX5_put_9 : decode cX5_put 9 = .ok (.iload_n 2, 1) := by decide +kernel
theorem dX5_put_10 : decode cX5_put 10 = .ok (.aload_n 0, 1) := by decide +kernel
theorem dX5_put_11 : decode cX5_put 11 = .ok (.getfield 11, 3) := by decide +kernel
theorem dX5_put_14 : decode cX5_put 14 = .ok (.arraylength, 1) := by decide +kernel
theorem dX5_put_15 : decode cX5_put 15 = .ok (.if_icmp .lt 4, 3) := by decide +kernel
theorem dX5_put_18 : decode cX5_put 18 = .ok (.return_, 1) := by decide +kernel
theorem dX5_put_19 : decode cX5_put 19 = .ok (.aload_n 0, 1) := by decide +kernel
theorem dX5_put_20 : decode cX5_put 20 = .ok (.getfield 11, 3) := by decide +kernel
theorem dX5_put_23 : decode cX5_put 23 = .ok (.iload_n 2, 1) := by decide +kernel
theorem dX5_put_24 : decode cX5_put 24 = .ok (.aload_n 1, 1) := by decide +kernel
theorem dX5_put_25 : decode cX5_put 25 = .ok (.aastore, 1) := by decide +kernel
theorem dX5_put_26 : decode cX5_put 26 = .ok (.aload_n 0, 1) := by decide +kernel
theorem dX5_put_27 : decode cX5_put 27 = .ok (.aload_n 0, 1) := by decide +kernel
theorem dX5_put_28 : decode cX5_put 28 = .ok (.getfield 17, 3) := by decide +kernel
theorem dX5_put_31 : decode cX5_put 31 = .ok (.iload_n 2, 1) := by decide +kernel
theorem dX5_put_32 : decode cX5_put 32 = .ok (.iconst 1, 1) := by decide +kernel
theorem dX5_put_33 : decode cX5_put 33 = .ok (.iadd, 1) := by decide +kernel
theorem dX5_put_34 : decode cX5_put 34 = .ok (.invokestatic 35, 3) := by decide +kernel
theorem dX5_put_37 : decode cX5_put 37 = .ok (.putfield 17, 3) := by decide +kernel
theorem dX5_put_40 : decode cX5_put 40 = .ok (.return_, 1) := by decide +kernel
theorem dX5_clear_0 : decode cX5_clear 0 = .ok (.iconst 0, 1) := by decide +kernel
theorem dX5_clear_1 : decode cX5_clear 1 = .ok (.istore_n 1, 1) := by decide +kernel
theorem dX5_clear_2 : decode cX5_clear 2 = .ok (.iload_n 1, 1) := by decide +kernel
theorem dX5_clear_3 : decode cX5_clear 3 = .ok (.aload_n 0, 1) := by decide +kernel
theorem dX5_clear_4 : decode cX5_clear 4 = .ok (.getfield 11, 3) := by decide +kernel
theorem dX5_clear_7 : decode cX5_clear 7 = .ok (.arraylength, 1) := by decide +kernel
theorem dX5_clear_8 : decode cX5_clear 8 = .ok (.if_icmp .ge 16, 3) := by decide +kernel
theorem dX5_clear_11 : decode cX5_clear 11 = .ok (.aload_n 0, 1) := by decide +kernel
theorem dX5_clear_12 : decode cX5_clear 12 = .ok (.getfield 11, 3) := by decide +kernel
theorem dX5_clear_15 : decode cX5_clear 15 = .ok (.iload_n 1, 1) := by decide +kernel
theorem dX5_clear_16 : decode cX5_clear 16 = .ok (.aconst_null, 1) := by decide +kernel
theorem dX5_clear_17 : decode cX5_clear 17 = .ok (.aastore, 1) := by decide +kernel
theorem dX5_clear_18 : decode cX5_clear 18 = .ok (.iinc 1 1, 3) := by decide +kernel
theorem dX5_clear_21 : decode cX5_clear 21 = .ok (.goto (-19), 3) := by decide +kernel
theorem dX5_clear_24 : decode cX5_clear 24 = .ok (.aload_n 0, 1) := by decide +kernel
theorem dX5_clear_25 : decode cX5_clear 25 = .ok (.iconst 0, 1) := by decide +kernel
theorem dX5_clear_26 : decode cX5_clear 26 = .ok (.putfield 17, 3) := by decide +kernel
theorem dX5_clear_29 : decode cX5_clear 29 = .ok (.return_, 1) := by decide +kernel
theorem dX5_takeFrom_0 : decode cX5_takeFrom 0 = .ok (.iconst 0, 1) := by decide +kernel
theorem dX5_takeFrom_1 : decode cX5_takeFrom 1 = .ok (.istore_n 2, 1) := by decide +kernel
theorem dX5_takeFrom_2 : decode cX5_takeFrom 2 = .ok (.iload_n 2, 1) := by decide +kernel
theorem dX5_takeFrom_3 : decode cX5_takeFrom 3 = .ok (.aload_n 0, 1) := by decide +kernel
theorem dX5_takeFrom_4 : decode cX5_takeFrom 4 = .ok (.getfield 11, 3) := by decide +kernel
theorem dX5_takeFrom_7 : decode cX5_takeFrom 7 = .ok (.arraylength, 1) := by decide +kernel
theorem dX5_takeFrom_8 : decode cX5_takeFrom 8 = .ok (.if_icmp .ge 20, 3) := by decide +kernel
theorem dX5_takeFrom_11 : decode cX5_takeFrom 11 = .ok (.aload_n 0, 1) := by decide +kernel
theorem dX5_takeFrom_12 : decode cX5_takeFrom 12 = .ok (.getfield 11, 3) := by decide +kernel
theorem dX5_takeFrom_15 : decode cX5_takeFrom 15 = .ok (.iload_n 2, 1) := by decide +kernel
theorem dX5_takeFrom_16 : decode cX5_takeFrom 16 = .ok (.aload_n 1, 1) := by decide +kernel
theorem dX5_takeFrom_17 : decode cX5_takeFrom 17 = .ok (.iload_n 2, 1) := by decide +kernel
theorem dX5_takeFrom_18 : decode cX5_takeFrom 18 = .ok (.invokevirtual 21, 3) := by decide +kernel
theorem dX5_takeFrom_21 : decode cX5_takeFrom 21 = .ok (.aastore, 1) := by decide +kernel
theorem dX5_takeFrom_22 : decode cX5_takeFrom 22 = .ok (.iinc 2 1, 3) := by decide +kernel
theorem dX5_takeFrom_25 : decode cX5_takeFrom 25 = .ok (.goto (-23), 3) := by decide +kernel
theorem dX5_takeFrom_28 : decode cX5_takeFrom 28 = .ok (.aload_n 0, 1) := by decide +kernel
theorem dX5_takeFrom_29 : decode cX5_takeFrom 29 = .ok (.aload_n 1, 1) := by decide +kernel
theorem dX5_takeFrom_30 : decode cX5_takeFrom 30 = .ok (.getfield 17, 3) := by decide +kernel
theorem dX5_takeFrom_33 : decode cX5_takeFrom 33 = .ok (.putfield 17, 3) := by decide +kernel
theorem dX5_takeFrom_36 : decode cX5_takeFrom 36 = .ok (.return_, 1) := by decide +kernel
theorem dX6_init_0 : decode cX6_init 0 = .ok (.aload_n 0, 1) := by decide +kernel
theorem dX6_init_1 : decode cX6_init 1 = .ok (.invokespecial 3, 3) := by decide +kernel
theorem dX6_init_4 : decode cX6_init 4 = .ok (.aload_n 0, 1) := by decide +kernel
theorem dX6_init_5 : decode cX6_init 5 = .ok (.bipush 20, 2) := by decide +kernel
theorem dX6_init_7 : decode cX6_init 7 = .ok (.newarray .int, 2) := by decide +kernel
theorem dX6_init_9 : decode cX6_init 9 = .ok (.putfield 9, 3) := by decide +kernel
theorem dX6_init_12 : decode cX6_init 12 = .ok (.aload_n 0, 1) := by decide +kernel
theorem dX6_init_13 : decode cX6_init 13 = .ok (.bipush 100, 2) := by decide +kernel
theorem dX6_init_15 : decode cX6_init 15 = .ok (.newarray .int, 2) := by decide +kernel
theorem dX6_init_17 : decode cX6_init 17 = .ok (.putfield 15, 3) := by decide +kernel
theorem dX6_init_20 : decode cX6_init 20 = .ok (.aload_n 0, 1) := by decide +kernel
theorem dX6_init_21 : decode cX6_init 21 = .ok (.bipush 100, 2) := by decide +kernel
theorem dX6_init_23 : decode cX6_init 23 = .ok (.newarray .int, 2) := by decide +kernel
theorem dX6_init_25 : decode cX6_init 25 = .ok (.putfield 18, 3) := by decide +kernel
theorem dX6_init_28 : decode cX6_init 28 = .ok (.aload_n 0, 1) := by decide +kernel
theorem dX6_init_29 : decode cX6_init 29 = .ok (.bipush 100, 2) := by decide +kernel
theorem dX6_init_31 : decode cX6_init 31 = .ok (.newarray .int, 2) := by decide +kernel
theorem dX6_init_33 : decode cX6_init 33 = .ok (.putfield 21, 3) := by decide +kernel
theorem dX6_init_36 : decode cX6_init 36 = .ok (.aload_n 0, 1) := by decide +kernel
theorem dX6_init_37 : decode cX6_init 37 = .ok (.bipush 100, 2) := by decide +kernel
theorem dX6_init_39 : decode cX6_init 39 = .ok (.newarray .int, 2) := by decide +kernel
theorem dX6_init_41 : decode cX6_init 41 = .ok (.putfield 24, 3) := by decide +kernel
theorem dX6_init_44 : decode cX6_init 44 = .ok (.aload_n 0, 1) := by decide +kernel
theorem dX6_init_45 : decode cX6_init 45 = .ok (.iconst 0, 1) := by decide +kernel
theorem dX6_init_46 : decode cX6_init 46 = .ok (.putfield 27, 3) := by decide +kernel
theorem dX6_init_49 : decode cX6_init 49 = .ok (.aload_n 0, 1) := by decide +kernel
theorem dX6_init_50 : decode cX6_init 50 = .ok (.iconst 0, 1) := by decide +kernel
theorem dX6_init_51 : decode cX6_init 51 = .ok (.putfield 31, 3) := by decide +kernel
theorem dX6_init_54 : decode cX6_init 54 = .ok (.return_, 1) := by decide +kernel
theorem dX6_parts_0 : decode cX6_parts 0 = .ok (.aload_n 0, 1) := by decide +kernel
theorem dX6_parts_1 : decode cX6_parts 1 = .ok (.getfield 27, 3) := by decide +kernel
theorem dX6_parts_4 : decode cX6_parts 4 = .ok (.ireturn, 1) := by decide +kernel
theorem dX6_items_0 : decode cX6_items 0 = .ok (.aload_n 0, 1) := by decide +kernel
theorem dX6_items_1 : decode cX6_items 1 = .ok (.getfield 31, 3) := by decide +kernel
theorem dX6_items_4 : decode cX6_items 4 = .ok (.ireturn, 1) := by decide +kernel
theorem dX6_clear_0 : decode cX6_clear 0 = .ok (.aload_n 0, 1) := by decide +kernel
theorem dX6_clear_1 : decode cX6_clear 1 = .ok (.iconst 0, 1) := by decide +kernel
theorem dX6_clear_2 : decode cX6_clear 2 = .ok (.putfield 27, 3) := by decide +kernel
theorem dX6_clear_5 : decode cX6_clear 5 = .ok (.aload_n 0, 1) := by decide +kernel
theorem dX6_clear_6 : decode cX6_clear 6 = .ok (.iconst 0, 1) := by decide +kernel
theorem dX6_clear_7 : decode cX6_clear 7 = .ok (.putfield 31, 3) := by decide +kernel
theorem dX6_clear_10 : decode cX6_clear 10 = .ok (.return_, 1) := by decide +kernel
theorem dX6_hasRoomForPart_0 : decode cX6_hasRoomForPart 0 = .ok (.aload_n 0, 1) := by decide +kernel
theorem dX6_hasRoomForPart_1 : decode cX6_hasRoomForPart 1 = .ok (.getfield 27, 3) := by decide +kernel
theorem dX6_hasRoomForPart_4 : decode cX6_hasRoomForPart 4 = .ok (.aload_n 0, 1) := by decide +kernel
theorem dX6_hasRoomForPart_5 : decode cX6_hasRoomForPart 5 = .ok (.getfield 9, 3) := by decide +kernel
theorem dX6_hasRoomForPart_8 : decode cX6_hasRoomForPart 8 = .ok (.arraylength, 1) := by decide +kernel
theorem dX6_hasRoomForPart_9 : decode cX6_hasRoomForPart 9 = .ok (.if_icmp .ge 7, 3) := by decide +kernel
theorem dX6_hasRoomForPart_12 : decode cX6_hasRoomForPart 12 = .ok (.iconst 1, 1) := by decide +kernel
theorem dX6_hasRoomForPart_13 : decode cX6_hasRoomForPart 13 = .ok (.goto 4, 3) := by decide +kernel
theorem dX6_hasRoomForPart_16 : decode cX6_hasRoomForPart 16 = .ok (.iconst 0, 1) := by decide +kernel
theorem dX6_hasRoomForPart_17 : decode cX6_hasRoomForPart 17 = .ok (.ireturn, 1) := by decide +kernel
theorem dX6_addPart_0 : decode cX6_addPart 0 = .ok (.aload_n 0, 1) := by decide +kernel
theorem dX6_addPart_1 : decode cX6_addPart 1 = .ok (.getfield 27, 3) := by decide +kernel
theorem dX6_addPart_4 : decode cX6_addPart 4 = .ok (.ifCond .lt 15, 3) := by decide +kernel
theorem dX6_addPart_7 : decode cX6_addPart 7 = .ok (.aload_n 0, 1) := by decide +kernel
theorem dX6_addPart_8 : decode cX6_addPart 8 = .ok (.getfield 27, 3) := by decide +kernel
theorem dX6_addPart_11 : decode cX6_addPart 11 = .ok (.aload_n 0, 1) := by decide +kernel
theorem dX6_addPart_12 : decode cX6_addPart 12 = .ok (.getfield 9, 3) := by decide +kernel
theorem dX6_addPart_15 : decode cX6_addPart 15 = .ok (.arraylength, 1) := by decide +kernel
theorem dX6_addPart_16 : decode cX6_addPart 16 = .ok (.if_icmp .lt 4, 3) := by decide +kernel
theorem dX6_addPart_19 : decode cX6_addPart 19 = .ok (.return_, 1) := by decide +kernel
theorem dX6_addPart_20 : decode cX6_addPart 20 = .ok (.aload_n 0, 1) := by decide +kernel
theorem dX6_addPart_21 : decode cX6_addPart 21 = .ok (.getfield 9, 3) := by decide +kernel
theorem dX6_addPart_24 : decode cX6_addPart 24 = .ok (.aload_n 0, 1) := by decide +kernel
theorem dX6_addPart_25 : decode cX6_addPart 25 = .ok (.getfield 27, 3) := by decide +kernel
theorem dX6_addPart_28 : decode cX6_addPart 28 = .ok (.iload_n 1, 1) := by decide +kernel
theorem dX6_addPart_29 : decode cX6_addPart 29 = .ok (.iastore, 1) := by decide +kernel
theorem dX6_addPart_30 : decode cX6_addPart 30 = .ok (.aload_n 0, 1) := by decide +kernel
theorem dX6_addPart_31 : decode cX6_addPart 31 = .ok (.dup, 1) := by decide +kernel
theorem dX6_addPart_32 : decode cX6_addPart 32 = .ok (.getfield 27, 3) := by decide +kernel
theorem dX6_addPart_35 : decode cX6_addPart 35 = .ok (.iconst 1, 1) := by decide +kernel
theorem dX6_addPart_36 : decode cX6_addPart 36 = .ok (.iadd, 1) := by decide +kernel
theorem dX6_addPart_37 : decode cX6_addPart 37 = .ok (.putfield 27, 3) := by decide +kernel
theorem dX6_addPart_40 : decode cX6_addPart 40 = .ok (.return_, 1) := by decide +kernel
theorem dX6_addItem_0 : decode cX6_addItem 0 = .ok (.aload_n 0, 1) := by decide +kernel
theorem dX6_addItem_1 : decode cX6_addItem 1 = .ok (.getfield 31, 3) := by decide +kernel
theorem dX6_addItem_4 : decode cX6_addItem 4 = .ok (.ifCond .lt 12, 3) := by decide +kernel
theorem dX6_addItem_7 : decode cX6_addItem 7 = .ok (.aload_n 0, 1) := by decide +kernel
theorem dX6_addItem_8 : decode cX6_addItem 8 = .ok (.getfield 31, 3) := by decide +kernel
theorem dX6_addItem_11 : decode cX6_addItem 11 = .ok (.bipush 100, 2) := by decide +kernel
theorem dX6_addItem_13 : decode cX6_addItem 13 = .ok (.if_icmp .lt 4, 3) := by decide +kernel
theorem dX6_addItem_16 : decode cX6_addItem 16 = .ok (.return_, 1) := by decide +kernel
theorem dX6_addItem_17 : decode cX6_addItem 17 = .ok (.aload_n 0, 1) := by decide +kernel
theorem dX6_addItem_18 : decode cX6_addItem 18 = .ok (.getfield 15, 3) := by decide +kernel
theorem dX6_addItem_21 : decode cX6_addItem 21 = .ok (.aload_n 0, 1) := by decide +kernel
theorem dX6_addItem_22 : decode cX6_addItem 22 = .ok (.getfield 31, 3) := by decide +kernel
theorem dX6_addItem_25 : decode cX6_addItem 25 = .ok (.iload_n 1, 1) := by decide +kernel
theorem dX6_addItem_26 : decode cX6_addItem 26 = .ok (.iastore, 1) := by decide +kernel
theorem dX6_addItem_27 : decode cX6_addItem 27 = .ok (.aload_n 0, 1) := by decide +kernel
theorem dX6_addItem_28 : decode cX6_addItem 28 = .ok (.getfield 18, 3) := by decide +kernel
theorem dX6_addItem_31 : decode cX6_addItem 31 = .ok (.aload_n 0, 1) := by decide +kernel
theorem dX6_addItem_32 : decode cX6_addItem 32 = .ok (.getfield 31, 3) := by decide +kernel
theorem dX6_addItem_35 : decode cX6_addItem 35 = .ok (.iload_n 2, 1) := by decide +kernel
theorem dX6_addItem_36 : decode cX6_addItem 36 = .ok (.iastore, 1) := by decide +kernel
theorem dX6_addItem_37 : decode cX6_addItem 37 = .ok (.aload_n 0, 1) := by decide +kernel
theorem dX6_addItem_38 : decode cX6_addItem 38 = .ok (.getfield 21, 3) := by decide +kernel
theorem dX6_addItem_41 : decode cX6_addItem 41 = .ok (.aload_n 0, 1) := by decide +kernel
theorem dX6_addItem_42 : decode cX6_addItem 42 = .ok (.getfield 31, 3) := by decide +kernel
theorem dX6_addItem_45 : decode cX6_addItem 45 = .ok (.iload_n 3, 1) := by decide +kernel
theorem dX6_addItem_46 : decode cX6_addItem 46 = .ok (.iastore, 1) := by decide +kernel
theorem dX6_addItem_47 : decode cX6_addItem 47 = .ok (.aload_n 0, 1) := by decide +kernel
theorem dX6_addItem_48 : decode cX6_addItem 48 = .ok (.getfield 24, 3) := by decide +kernel
theorem dX6_addItem_51 : decode cX6_addItem 51 = .ok (.aload_n 0, 1) := by decide +kernel
theorem dX6_addItem_52 : decode cX6_addItem 52 = .ok (.getfield 31, 3) := by decide +kernel
theorem dX6_addItem_55 : decode cX6_addItem 55 = .ok (.iload 4, 2) := by decide +kernel
theorem dX6_addItem_57 : decode cX6_addItem 57 = .ok (.iastore, 1) := by decide +kernel
theorem dX6_addItem_58 : decode cX6_addItem 58 = .ok (.aload_n 0, 1) := by decide +kernel
theorem dX6_addItem_59 : decode cX6_addItem 59 = .ok (.dup, 1) := by decide +kernel
theorem dX6_addItem_60 : decode cX6_addItem 60 = .ok (.getfield 31, 3) := by decide +kernel
theorem dX6_addItem_63 : decode cX6_addItem 63 = .ok (.iconst 1, 1) := by decide +kernel
theorem dX6_addItem_64 : decode cX6_addItem 64 = .ok (.iadd, 1) := by decide +kernel
theorem dX6_addItem_65 : decode cX6_addItem 65 = .ok (.putfield 31, 3) := by decide +kernel
theorem dX6_addItem_68 : decode cX6_addItem 68 = .ok (.return_, 1) := by decide +kernel
theorem dX6_tableOf_0 : decode cX6_tableOf 0 = .ok (.iload_n 1, 1) := by decide +kernel
theorem dX6_tableOf_1 : decode cX6_tableOf 1 = .ok (.ifCond .lt 29, 3) := by decide +kernel
theorem dX6_tableOf_4 : decode cX6_tableOf 4 = .ok (.iload_n 1, 1) := by decide +kernel
theorem dX6_tableOf_5 : decode cX6_tableOf 5 = .ok (.aload_n 0, 1) := by decide +kernel
theorem dX6_tableOf_6 : decode cX6_tableOf 6 = .ok (.getfield 27, 3) := by decide +kernel
theorem dX6_tableOf_9 : decode cX6_tableOf 9 = .ok (.if_icmp .ge 21, 3) := by decide +kernel
theorem dX6_tableOf_12 : decode cX6_tableOf 12 = .ok (.iload_n 1, 1) := by decide +kernel
theorem dX6_tableOf_13 : decode cX6_tableOf 13 = .ok (.aload_n 0, 1) := by decide +kernel
theorem dX6_tableOf_14 : decode cX6_tableOf 14 = .ok (.getfield 9, 3) := by decide +kernel
theorem dX6_tableOf_17 : decode cX6_tableOf 17 = .ok (.arraylength, 1) := by decide +kernel
theorem dX6_tableOf_18 : decode cX6_tableOf 18 = .ok (.if_icmp .ge 12, 3) := by decide +kernel
theorem dX6_tableOf_21 : decode cX6_tableOf 21 = .ok (.aload_n 0, 1) := by decide +kernel
theorem dX6_tableOf_22 : decode cX6_tableOf 22 = .ok (.getfield 9, 3) := by decide +kernel
theorem dX6_tableOf_25 : decode cX6_tableOf 25 = .ok (.iload_n 1, 1) := by decide +kernel
theorem dX6_tableOf_26 : decode cX6_tableOf 26 = .ok (.iaload, 1) := by decide +kernel
theorem dX6_tableOf_27 : decode cX6_tableOf 27 = .ok (.goto 4, 3) := by decide +kernel
theorem dX6_tableOf_30 : decode cX6_tableOf 30 = .ok (.iconst (-1), 1) := by decide +kernel
theorem dX6_tableOf_31 : decode cX6_tableOf 31 = .ok (.ireturn, 1) := by decide +kernel
theorem dX6_isItem_0 : decode cX6_isItem 0 = .ok (.iload_n 1, 1) := by decide +kernel
theorem dX6_isItem_1 : decode cX6_isItem 1 = .ok (.ifCond .lt 21, 3) := by decide +kernel
theorem dX6_isItem_4 : decode cX6_isItem 4 = .ok (.iload_n 1, 1) := by decide +kernel
theorem dX6_isItem_5 : decode cX6_isItem 5 = .ok (.aload_n 0, 1) := by decide +kernel
theorem dX6_isItem_6 : decode cX6_isItem 6 = .ok (.getfield 31, 3) := by decide +kernel
theorem dX6_isItem_9 : decode cX6_isItem 9 = .ok (.if_icmp .ge 13, 3) := by decide +kernel
theorem dX6_isItem_12 : decode cX6_isItem 12 = .ok (.iload_n 1, 1) := by decide +kernel
theorem dX6_isItem_13 : decode cX6_isItem 13 = .ok (.bipush 100, 2) := by decide +kernel
theorem dX6_isItem_15 : decode cX6_isItem 15 = .ok (.if_icmp .ge 7, 3) := by decide +kernel
theorem dX6_isItem_18 : decode cX6_isItem 18 = .ok (.iconst 1, 1) := by decide +kernel
theorem dX6_isItem_19 : decode cX6_isItem 19 = .ok (.goto 4, 3) := by decide +kernel
theorem dX6_isItem_22 : decode cX6_isItem 22 = .ok (.iconst 0, 1) := by decide +kernel
theorem dX6_isItem_23 : decode cX6_isItem 23 = .ok (.ireturn, 1) := by decide +kernel
theorem dX6_ownerOf_0 : decode cX6_ownerOf 0 = .ok (.aload_n 0, 1) := by decide +kernel
theorem dX6_ownerOf_1 : decode cX6_ownerOf 1 = .ok (.iload_n 1, 1) := by decide +kernel
theorem dX6_ownerOf_2 : decode cX6_ownerOf 2 = .ok (.invokevirtual 34, 3) := by decide +kernel
theorem dX6_ownerOf_5 : decode cX6_ownerOf 5 = .ok (.ifCond .eq 12, 3) := by decide +kernel
theorem dX6_ownerOf_8 : decode cX6_ownerOf 8 = .ok (.aload_n 0, 1) := by decide +kernel
theorem dX6_ownerOf_9 : decode cX6_ownerOf 9 = .ok (.getfield 15, 3) := by decide +kernel
theorem dX6_ownerOf_12 : decode cX6_ownerOf 12 = .ok (.iload_n 1, 1) := by decide +kernel
theorem dX6_ownerOf_13 : decode cX6_ownerOf 13 = .ok (.iaload, 1) := by decide +kernel
theorem dX6_ownerOf_14 : decode cX6_ownerOf 14 = .ok (.goto 4, 3) := by decide +kernel
theorem dX6_ownerOf_17 : decode cX6_ownerOf 17 = .ok (.iconst (-1), 1) := by decide +kernel
theorem dX6_ownerOf_18 : decode cX6_ownerOf 18 = .ok (.ireturn, 1) := by decide +kernel
theorem dX6_kindOf_0 : decode cX6_kindOf 0 = .ok (.aload_n 0, 1) := by decide +kernel
theorem dX6_kindOf_1 : decode cX6_kindOf 1 = .ok (.iload_n 1, 1) := by decide +kernel
theorem dX6_kindOf_2 : decode cX6_kindOf 2 = .ok (.invokevirtual 34, 3) := by decide +kernel
theorem dX6_kindOf_5 : decode cX6_kindOf 5 = .ok (.ifCond .eq 12, 3) := by decide +kernel
theorem dX6_kindOf_8 : decode cX6_kindOf 8 = .ok (.aload_n 0, 1) := by decide +kernel
theorem dX6_kindOf_9 : decode cX6_kindOf 9 = .ok (.getfield 18, 3) := by decide +kernel
theorem dX6_kindOf_12 : decode cX6_kindOf 12 = .ok (.iload_n 1, 1) := by decide +kernel
theorem dX6_kindOf_13 : decode cX6_kindOf 13 = .ok (.iaload, 1) := by decide +kernel
theorem dX6_kindOf_14 : decode cX6_kindOf 14 = .ok (.goto 4, 3) := by decide +kernel
theorem dX6_kindOf_17 : decode cX6_kindOf 17 = .ok (.iconst (-1), 1) := by decide +kernel
theorem dX6_kindOf_18 : decode cX6_kindOf 18 = .ok (.ireturn, 1) := by decide +kernel
theorem dX6_referenceOf_0 : decode cX6_referenceOf 0 = .ok (.aload_n 0, 1) := by decide +kernel
theorem dX6_referenceOf_1 : decode cX6_referenceOf 1 = .ok (.iload_n 1, 1) := by decide +kernel
theorem dX6_referenceOf_2 : decode cX6_referenceOf 2 = .ok (.invokevirtual 34, 3) := by decide +kernel
theorem dX6_referenceOf_5 : decode cX6_referenceOf 5 = .ok (.ifCond .eq 12, 3) := by decide +kernel
theorem dX6_referenceOf_8 : decode cX6_referenceOf 8 = .ok (.aload_n 0, 1) := by decide +kernel
theorem dX6_referenceOf_9 : decode cX6_referenceOf 9 = .ok (.getfield 21, 3) := by decide +kernel
theorem dX6_referenceOf_12 : decode cX6_referenceOf 12 = .ok (.iload_n 1, 1) := by decide +kernel
theorem dX6_referenceOf_13 : decode cX6_referenceOf 13 = .ok (.iaload, 1) := by decide +kernel
theorem dX6_referenceOf_14 : decode cX6_referenceOf 14 = .ok (.goto 4, 3) := by decide +kernel
theorem dX6_referenceOf_17 : decode cX6_referenceOf 17 = .ok (.iconst (-1), 1) := by decide +kernel
theorem dX6_referenceOf_18 : decode cX6_referenceOf 18 = .ok (.ireturn, 1) := by decide +kernel
theorem dX6_partWithin_0 : decode cX6_partWithin 0 = .ok (.aload_n 0, 1) := by decide +kernel
theorem dX6_partWithin_1 : decode cX6_partWithin 1 = .ok (.iload_n 1, 1) := by decide +kernel
theorem dX6_partWithin_2 : decode cX6_partWithin 2 = .ok (.invokevirtual 34, 3) := by decide +kernel
theorem dX6_partWithin_5 : decode cX6_partWithin 5 = .ok (.ifCond .eq 12, 3) := by decide +kernel
theorem dX6_partWithin_8 : decode cX6_partWithin 8 = .ok (.aload_n 0, 1) := by decide +kernel
theorem dX6_partWithin_9 : decode cX6_partWithin 9 = .ok (.getfield 24, 3) := by decide +kernel
theorem dX6_partWithin_12 : decode cX6_partWithin 12 = .ok (.iload_n 1, 1) := by decide +kernel
theorem dX6_partWithin_13 : decode cX6_partWithin 13 = .ok (.iaload, 1) := by decide +kernel
theorem dX6_partWithin_14 : decode cX6_partWithin 14 = .ok (.goto 4, 3) := by decide +kernel
theorem dX6_partWithin_17 : decode cX6_partWithin 17 = .ok (.iconst (-1), 1) := by decide +kernel
theorem dX6_partWithin_18 : decode cX6_partWithin 18 = .ok (.ireturn, 1) := by decide +kernel
theorem dX7_init_0 : decode cX7_init 0 = .ok (.aload_n 0, 1) := by decide +kernel
theorem dX7_init_1 : decode cX7_init 1 = .ok (.invokespecial 3, 3) := by decide +kernel
theorem dX7_init_4 : decode cX7_init 4 = .ok (.aload_n 0, 1) := by decide +kernel
theorem dX7_init_5 : decode cX7_init 5 = .ok (.sipush 200, 3) := by decide +kernel
theorem dX7_init_8 : decode cX7_init 8 = .ok (.newarray .int, 2) := by decide +kernel
theorem dX7_init_10 : decode cX7_init 10 = .ok (.putfield 9, 3) := by decide +kernel
theorem dX7_init_13 : decode cX7_init 13 = .ok (.aload_n 0, 1) := by decide +kernel
theorem dX7_init_14 : decode cX7_init 14 = .ok (.iconst 0, 1) := by decide +kernel
theorem dX7_init_15 : decode cX7_init 15 = .ok (.putfield 15, 3) := by decide +kernel
theorem dX7_init_18 : decode cX7_init 18 = .ok (.return_, 1) := by decide +kernel
theorem dX7_length_0 : decode cX7_length 0 = .ok (.aload_n 0, 1) := by decide +kernel
theorem dX7_length_1 : decode cX7_length 1 = .ok (.getfield 15, 3) := by decide +kernel
theorem dX7_length_4 : decode cX7_length 4 = .ok (.ireturn, 1) := by decide +kernel
theorem dX7_addNumber_0 : decode cX7_addNumber 0 = .ok (.iconst 3, 1) := by decide +kernel
theorem dX7_addNumber_1 : decode cX7_addNumber 1 = .ok (.istore_n 2, 1) := by decide +kernel
theorem dX7_addNumber_2 : decode cX7_addNumber 2 = .ok (.iload_n 2, 1) := by decide +kernel
theorem dX7_addNumber_3 : decode cX7_addNumber 3 = .ok (.ifCond .lt 23, 3) := by decide +kernel
theorem dX7_addNumber_6 : decode cX7_addNumber 6 = .ok (.aload_n 0, 1) := by decide +kernel
theorem dX7_addNumber_7 : decode cX7_addNumber 7 = .ok (.iload_n 1, 1) := by decide +kernel
theorem dX7_addNumber_8 : decode cX7_addNumber 8 = .ok (.bipush 8, 2) := by decide +kernel
theorem dX7_addNumber_10 : decode cX7_addNumber 10 = .ok (.iload_n 2, 1) := by decide +kernel
theorem dX7_addNumber_11 : decode cX7_addNumber 11 = .ok (.imul, 1) := by decide +kernel
theorem dX7_addNumber_12 : decode cX7_addNumber 12 = .ok (.iushr, 1) := by decide +kernel
theorem dX7_addNumber_13 : decode cX7_addNumber 13 = .ok (.sipush 255, 3) := by decide +kernel
theorem dX7_addNumber_16 : decode cX7_addNumber 16 = .ok (.iand, 1) := by decide +kernel
theorem dX7_addNumber_17 : decode cX7_addNumber 17 = .ok (.invokevirtual 19, 3) := by decide +kernel
theorem dX7_addNumber_20 : decode cX7_addNumber 20 = .ok (.iinc 2 (-1), 3) := by decide +kernel
theorem dX7_addNumber_23 : decode cX7_addNumber 23 = .ok (.goto (-21), 3) := by decide +kernel
theorem dX7_addNumber_26 : decode cX7_addNumber 26 = .ok (.return_, 1) := by decide +kernel
theorem dX7_addByte_0 : decode cX7_addByte 0 = .ok (.aload_n 0, 1) := by decide +kernel
theorem dX7_addByte_1 : decode cX7_addByte 1 = .ok (.getfield 15, 3) := by decide +kernel
theorem dX7_addByte_4 : decode cX7_addByte 4 = .ok (.ifCond .lt 15, 3) := by decide +kernel
theorem dX7_addByte_7 : decode cX7_addByte 7 = .ok (.aload_n 0, 1) := by decide +kernel
theorem dX7_addByte_8 : decode cX7_addByte 8 = .ok (.getfield 15, 3) := by decide +kernel
theorem dX7_addByte_11 : decode cX7_addByte 11 = .ok (.aload_n 0, 1) := by decide +kernel
theorem dX7_addByte_12 : decode cX7_addByte 12 = .ok (.getfield 9, 3) := by decide +kernel
theorem dX7_addByte_15 : decode cX7_addByte 15 = .ok (.arraylength, 1) := by decide +kernel
theorem dX7_addByte_16 : decode cX7_addByte 16 = .ok (.if_icmp .lt 4, 3) := by decide +kernel
theorem dX7_addByte_19 : decode cX7_addByte 19 = .ok (.return_, 1) := by decide +kernel
theorem dX7_addByte_20 : decode cX7_addByte 20 = .ok (.aload_n 0, 1) := by decide +kernel
theorem dX7_addByte_21 : decode cX7_addByte 21 = .ok (.getfield 9, 3) := by decide +kernel
theorem dX7_addByte_24 : decode cX7_addByte 24 = .ok (.aload_n 0, 1) := by decide +kernel
theorem dX7_addByte_25 : decode cX7_addByte 25 = .ok (.getfield 15, 3) := by decide +kernel
theorem dX7_addByte_28 : decode cX7_addByte 28 = .ok (.iload_n 1, 1) := by decide +kernel
theorem dX7_addByte_29 : decode cX7_addByte 29 = .ok (.iastore, 1) := by decide +kernel
theorem dX7_addByte_30 : decode cX7_addByte 30 = .ok (.aload_n 0, 1) := by decide +kernel
theorem dX7_addByte_31 : decode cX7_addByte 31 = .ok (.dup, 1) := by decide +kernel
theorem dX7_addByte_32 : decode cX7_addByte 32 = .ok (.getfield 15, 3) := by decide +kernel
theorem dX7_addByte_35 : decode cX7_addByte 35 = .ok (.iconst 1, 1) := by decide +kernel
theorem dX7_addByte_36 : decode cX7_addByte 36 = .ok (.iadd, 1) := by decide +kernel
theorem dX7_addByte_37 : decode cX7_addByte 37 = .ok (.putfield 15, 3) := by decide +kernel
theorem dX7_addByte_40 : decode cX7_addByte 40 = .ok (.return_, 1) := by decide +kernel
theorem dX7_cutTo_0 : decode cX7_cutTo 0 = .ok (.aload_n 0, 1) := by decide +kernel
theorem dX7_cutTo_1 : decode cX7_cutTo 1 = .ok (.iconst 0, 1) := by decide +kernel
theorem dX7_cutTo_2 : decode cX7_cutTo 2 = .ok (.aload_n 0, 1) := by decide +kernel
theorem dX7_cutTo_3 : decode cX7_cutTo 3 = .ok (.getfield 15, 3) := by decide +kernel
theorem dX7_cutTo_6 : decode cX7_cutTo 6 = .ok (.iload_n 1, 1) := by decide +kernel
theorem dX7_cutTo_7 : decode cX7_cutTo 7 = .ok (.invokestatic 23, 3) := by decide +kernel
theorem dX7_cutTo_10 : decode cX7_cutTo 10 = .ok (.invokestatic 29, 3) := by decide +kernel
theorem dX7_cutTo_13 : decode cX7_cutTo 13 = .ok (.putfield 15, 3) := by decide +kernel
theorem dX7_cutTo_16 : decode cX7_cutTo 16 = .ok (.return_, 1) := by decide +kernel
theorem dX7_byteAt_0 : decode cX7_byteAt 0 = .ok (.iload_n 1, 1) := by decide +kernel
theorem dX7_byteAt_1 : decode cX7_byteAt 1 = .ok (.ifCond .lt 29, 3) := by decide +kernel
theorem dX7_byteAt_4 : decode cX7_byteAt 4 = .ok (.iload_n 1, 1) := by decide +kernel
theorem dX7_byteAt_5 : decode cX7_byteAt 5 = .ok (.aload_n 0, 1) := by decide +kernel
theorem dX7_byteAt_6 : decode cX7_byteAt 6 = .ok (.getfield 15, 3) := by decide +kernel
theorem dX7_byteAt_9 : decode cX7_byteAt 9 = .ok (.if_icmp .ge 21, 3) := by decide +kernel
theorem dX7_byteAt_12 : decode cX7_byteAt 12 = .ok (.iload_n 1, 1) := by decide +kernel
theorem dX7_byteAt_13 : decode cX7_byteAt 13 = .ok (.aload_n 0, 1) := by decide +kernel
theorem dX7_byteAt_14 : decode cX7_byteAt 14 = .ok (.getfield 9, 3) := by decide +kernel
theorem dX7_byteAt_17 : decode cX7_byteAt 17 = .ok (.arraylength, 1) := by decide +kernel
theorem dX7_byteAt_18 : decode cX7_byteAt 18 = .ok (.if_icmp .ge 12, 3) := by decide +kernel
theorem dX7_byteAt_21 : decode cX7_byteAt 21 = .ok (.aload_n 0, 1) := by decide +kernel
theorem dX7_byteAt_22 : decode cX7_byteAt 22 = .ok (.getfield 9, 3) := by decide +kernel
theorem dX7_byteAt_25 : decode cX7_byteAt 25 = .ok (.iload_n 1, 1) := by decide +kernel
theorem dX7_byteAt_26 : decode cX7_byteAt 26 = .ok (.iaload, 1) := by decide +kernel
theorem dX7_byteAt_27 : decode cX7_byteAt 27 = .ok (.goto 4, 3) := by decide +kernel
theorem dX7_byteAt_30 : decode cX7_byteAt 30 = .ok (.iconst (-1), 1) := by decide +kernel
theorem dX7_byteAt_31 : decode cX7_byteAt 31 = .ok (.ireturn, 1) := by decide +kernel

theorem dX0_init_0 : decode cX0_init 0 = .ok (.aload_n 0, 1) := by decide +kernel
theorem dX0_init_1 : decode cX0_init 1 = .ok (.invokespecial 3, 3) := by decide +kernel
theorem dX0_init_4 : decode cX0_init 4 = .ok (.aload_n 0, 1) := by decide +kernel
theorem dX0_init_5 : decode cX0_init 5 = .ok (.iconst 4, 1) := by decide +kernel
theorem dX0_init_6 : decode cX0_init 6 = .ok (.anewarray 9, 3) := by decide +kernel
theorem dX0_init_9 : decode cX0_init 9 = .ok (.putfield 11, 3) := by decide +kernel
theorem dX0_init_12 : decode cX0_init 12 = .ok (.iconst 0, 1) := by decide +kernel
theorem dX0_init_13 : decode cX0_init 13 = .ok (.istore_n 1, 1) := by decide +kernel
theorem dX0_init_14 : decode cX0_init 14 = .ok (.iload_n 1, 1) := by decide +kernel
theorem dX0_init_15 : decode cX0_init 15 = .ok (.aload_n 0, 1) := by decide +kernel
theorem dX0_init_16 : decode cX0_init 16 = .ok (.getfield 11, 3) := by decide +kernel
theorem dX0_init_19 : decode cX0_init 19 = .ok (.arraylength, 1) := by decide +kernel
theorem dX0_init_20 : decode cX0_init 20 = .ok (.if_icmp .ge 22, 3) := by decide +kernel
theorem dX0_init_23 : decode cX0_init 23 = .ok (.aload_n 0, 1) := by decide +kernel
theorem dX0_init_24 : decode cX0_init 24 = .ok (.getfield 11, 3) := by decide +kernel
theorem dX0_init_27 : decode cX0_init 27 = .ok (.iload_n 1, 1) := by decide +kernel
theorem dX0_init_28 : decode cX0_init 28 = .ok (.new 9, 3) := by decide +kernel
theorem dX0_init_31 : decode cX0_init 31 = .ok (.dup, 1) := by decide +kernel
theorem dX0_init_32 : decode cX0_init 32 = .ok (.invokespecial 17, 3) := by decide +kernel
theorem dX0_init_35 : decode cX0_init 35 = .ok (.aastore, 1) := by decide +kernel
theorem dX0_init_36 : decode cX0_init 36 = .ok (.iinc 1 1, 3) := by decide +kernel
theorem dX0_init_39 : decode cX0_init 39 = .ok (.goto (-25), 3) := by decide +kernel
theorem dX0_init_42 : decode cX0_init 42 = .ok (.aload_n 0, 1) := by decide +kernel
theorem dX0_init_43 : decode cX0_init 43 = .ok (.iconst 0, 1) := by decide +kernel
theorem dX0_init_44 : decode cX0_init 44 = .ok (.putfield 18, 3) := by decide +kernel
theorem dX0_init_47 : decode cX0_init 47 = .ok (.aload_n 0, 1) := by decide +kernel
theorem dX0_init_48 : decode cX0_init 48 = .ok (.iconst 0, 1) := by decide +kernel
theorem dX0_init_49 : decode cX0_init 49 = .ok (.putfield 22, 3) := by decide +kernel
theorem dX0_init_52 : decode cX0_init 52 = .ok (.return_, 1) := by decide +kernel
theorem dX0_push_0 : decode cX0_push 0 = .ok (.aload_n 0, 1) := by decide +kernel
theorem dX0_push_1 : decode cX0_push 1 = .ok (.aload_n 0, 1) := by decide +kernel
theorem dX0_push_2 : decode cX0_push 2 = .ok (.getfield 18, 3) := by decide +kernel
theorem dX0_push_5 : decode cX0_push 5 = .ok (.invokevirtual 25, 3) := by decide +kernel
theorem dX0_push_8 : decode cX0_push 8 = .ok (.astore_n 2, 1) := by decide +kernel
theorem dX0_push_9 : decode cX0_push 9 = .ok (.aload_n 2, 1) := by decide +kernel
theorem dX0_push_10 : decode cX0_push 10 = .ok (.ifnull 8, 3) := by decide +kernel
theorem dX0_push_13 : decode cX0_push 13 = .ok (.aload_n 2, 1) := by decide +kernel
theorem dX0_push_14 : decode cX0_push 14 = .ok (.aload_n 1, 1) := by decide +kernel
theorem dX0_push_15 : decode cX0_push 15 = .ok (.invokevirtual 29, 3) := by decide +kernel
theorem dX0_push_18 : decode cX0_push 18 = .ok (.aload_n 0, 1) := by decide +kernel
theorem dX0_push_19 : decode cX0_push 19 = .ok (.aload_n 0, 1) := by decide +kernel
theorem dX0_push_20 : decode cX0_push 20 = .ok (.getfield 18, 3) := by decide +kernel
theorem dX0_push_23 : decode cX0_push 23 = .ok (.iconst 1, 1) := by decide +kernel
theorem dX0_push_24 : decode cX0_push 24 = .ok (.iadd, 1) := by decide +kernel
theorem dX0_push_25 : decode cX0_push 25 = .ok (.iconst 4, 1) := by decide +kernel
theorem dX0_push_26 : decode cX0_push 26 = .ok (.if_icmp .ge 12, 3) := by decide +kernel
theorem dX0_push_29 : decode cX0_push 29 = .ok (.aload_n 0, 1) := by decide +kernel
theorem dX0_push_30 : decode cX0_push 30 = .ok (.getfield 18, 3) := by decide +kernel
theorem dX0_push_33 : decode cX0_push 33 = .ok (.iconst 1, 1) := by decide +kernel
theorem dX0_push_34 : decode cX0_push 34 = .ok (.iadd, 1) := by decide +kernel
theorem dX0_push_35 : decode cX0_push 35 = .ok (.goto 4, 3) := by decide +kernel
theorem dX0_push_38 : decode cX0_push 38 = .ok (.iconst 0, 1) := by decide +kernel
theorem dX0_push_39 : decode cX0_push 39 = .ok (.putfield 18, 3) := by decide +kernel
theorem dX0_push_42 : decode cX0_push 42 = .ok (.aload_n 0, 1) := by decide +kernel
theorem dX0_push_43 : decode cX0_push 43 = .ok (.aload_n 0, 1) := by decide +kernel
theorem dX0_push_44 : decode cX0_push 44 = .ok (.getfield 22, 3) := by decide +kernel
theorem dX0_push_47 : decode cX0_push 47 = .ok (.iconst 4, 1) := by decide +kernel
theorem dX0_push_48 : decode cX0_push 48 = .ok (.if_icmp .ge 12, 3) := by decide +kernel
theorem dX0_push_51 : decode cX0_push 51 = .ok (.aload_n 0, 1) := by decide +kernel
theorem dX0_push_52 : decode cX0_push 52 = .ok (.getfield 22, 3) := by decide +kernel
theorem dX0_push_55 : decode cX0_push 55 = .ok (.iconst 1, 1) := by decide +kernel
theorem dX0_push_56 : decode cX0_push 56 = .ok (.iadd, 1) := by decide +kernel
theorem dX0_push_57 : decode cX0_push 57 = .ok (.goto 4, 3) := by decide +kernel
theorem dX0_push_60 : decode cX0_push 60 = .ok (.iconst 4, 1) := by decide +kernel
theorem dX0_push_61 : decode cX0_push 61 = .ok (.putfield 22, 3) := by decide +kernel
theorem dX0_push_64 : decode cX0_push 64 = .ok (.return_, 1) := by decide +kernel
theorem dX0_pop_0 : decode cX0_pop 0 = .ok (.aload_n 0, 1) := by decide +kernel
theorem dX0_pop_1 : decode cX0_pop 1 = .ok (.aload_n 0, 1) := by decide +kernel
theorem dX0_pop_2 : decode cX0_pop 2 = .ok (.getfield 18, 3) := by decide +kernel
theorem dX0_pop_5 : decode cX0_pop 5 = .ok (.ifCond .le 12, 3) := by decide +kernel
theorem dX0_pop_8 : decode cX0_pop 8 = .ok (.aload_n 0, 1) := by decide +kernel
theorem dX0_pop_9 : decode cX0_pop 9 = .ok (.getfield 18, 3) := by decide +kernel
theorem dX0_pop_12 : decode cX0_pop 12 = .ok (.iconst 1, 1) := by decide +kernel
theorem dX0_pop_13 : decode cX0_pop 13 = .ok (.isub, 1) := by decide +kernel
theorem dX0_pop_14 : decode cX0_pop 14 = .ok (.goto 4, 3) := by decide +kernel
theorem dX0_pop_17 : decode cX0_pop 17 = .ok (.iconst 3, 1) := by decide +kernel
theorem dX0_pop_18 : decode cX0_pop 18 = .ok (.putfield 18, 3) := by decide +kernel
theorem dX0_pop_21 : decode cX0_pop 21 = .ok (.aload_n 0, 1) := by decide +kernel
theorem dX0_pop_22 : decode cX0_pop 22 = .ok (.aload_n 0, 1) := by decide +kernel
theorem dX0_pop_23 : decode cX0_pop 23 = .ok (.getfield 22, 3) := by decide +kernel
theorem dX0_pop_26 : decode cX0_pop 26 = .ok (.iconst 1, 1) := by decide +kernel
theorem dX0_pop_27 : decode cX0_pop 27 = .ok (.isub, 1) := by decide +kernel
theorem dX0_pop_28 : decode cX0_pop 28 = .ok (.putfield 22, 3) := by decide +kernel
theorem dX0_pop_31 : decode cX0_pop 31 = .ok (.aload_n 0, 1) := by decide +kernel
theorem dX0_pop_32 : decode cX0_pop 32 = .ok (.aload_n 0, 1) := by decide +kernel
theorem dX0_pop_33 : decode cX0_pop 33 = .ok (.getfield 18, 3) := by decide +kernel
theorem dX0_pop_36 : decode cX0_pop 36 = .ok (.invokevirtual 25, 3) := by decide +kernel
theorem dX0_pop_39 : decode cX0_pop 39 = .ok (.astore_n 2, 1) := by decide +kernel
theorem dX0_pop_40 : decode cX0_pop 40 = .ok (.aload_n 2, 1) := by decide +kernel
theorem dX0_pop_41 : decode cX0_pop 41 = .ok (.ifnull 8, 3) := by decide +kernel
theorem dX0_pop_44 : decode cX0_pop 44 = .ok (.aload_n 1, 1) := by decide +kernel
theorem dX0_pop_45 : decode cX0_pop 45 = .ok (.aload_n 2, 1) := by decide +kernel
theorem dX0_pop_46 : decode cX0_pop 46 = .ok (.invokevirtual 29, 3) := by decide +kernel
theorem dX0_pop_49 : decode cX0_pop 49 = .ok (.return_, 1) := by decide +kernel
theorem dX0_stateAt_0 : decode cX0_stateAt 0 = .ok (.iload_n 1, 1) := by decide +kernel
theorem dX0_stateAt_1 : decode cX0_stateAt 1 = .ok (.ifCond .lt 21, 3) := by decide +kernel
theorem dX0_stateAt_4 : decode cX0_stateAt 4 = .ok (.iload_n 1, 1) := by decide +kernel
theorem dX0_stateAt_5 : decode cX0_stateAt 5 = .ok (.aload_n 0, 1) := by decide +kernel
theorem dX0_stateAt_6 : decode cX0_stateAt 6 = .ok (.getfield 11, 3) := by decide +kernel
theorem dX0_stateAt_9 : decode cX0_stateAt 9 = .ok (.arraylength, 1) := by decide +kernel
theorem dX0_stateAt_10 : decode cX0_stateAt 10 = .ok (.if_icmp .ge 12, 3) := by decide +kernel
theorem dX0_stateAt_13 : decode cX0_stateAt 13 = .ok (.aload_n 0, 1) := by decide +kernel
theorem dX0_stateAt_14 : decode cX0_stateAt 14 = .ok (.getfield 11, 3) := by decide +kernel
theorem dX0_stateAt_17 : decode cX0_stateAt 17 = .ok (.iload_n 1, 1) := by decide +kernel
theorem dX0_stateAt_18 : decode cX0_stateAt 18 = .ok (.aaload, 1) := by decide +kernel
theorem dX0_stateAt_19 : decode cX0_stateAt 19 = .ok (.goto 4, 3) := by decide +kernel
theorem dX0_stateAt_22 : decode cX0_stateAt 22 = .ok (.aconst_null, 1) := by decide +kernel
theorem dX0_stateAt_23 : decode cX0_stateAt 23 = .ok (.areturn, 1) := by decide +kernel
theorem dX1_init_0 : decode cX1_init 0 = .ok (.aload_n 0, 1) := by decide +kernel
theorem dX1_init_1 : decode cX1_init 1 = .ok (.invokespecial 1, 3) := by decide +kernel
theorem dX1_init_4 : decode cX1_init 4 = .ok (.aload_n 0, 1) := by decide +kernel
theorem dX1_init_5 : decode cX1_init 5 = .ok (.iload_n 1, 1) := by decide +kernel
theorem dX1_init_6 : decode cX1_init 6 = .ok (.ifCond .ge 7, 3) := by decide +kernel
theorem dX1_init_9 : decode cX1_init 9 = .ok (.iconst 0, 1) := by decide +kernel
theorem dX1_init_10 : decode cX1_init 10 = .ok (.goto 4, 3) := by decide +kernel
theorem dX1_init_13 : decode cX1_init 13 = .ok (.iload_n 1, 1) := by decide +kernel
theorem dX1_init_14 : decode cX1_init 14 = .ok (.newarray .int, 2) := by decide +kernel
theorem dX1_init_16 : decode cX1_init 16 = .ok (.putfield 7, 3) := by decide +kernel
theorem dX1_init_19 : decode cX1_init 19 = .ok (.return_, 1) := by decide +kernel
theorem dX1_at_0 : decode cX1_at 0 = .ok (.iload_n 1, 1) := by decide +kernel
theorem dX1_at_1 : decode cX1_at 1 = .ok (.ifCond .lt 21, 3) := by decide +kernel
theorem dX1_at_4 : decode cX1_at 4 = .ok (.iload_n 1, 1) := by decide +kernel
theorem dX1_at_5 : decode cX1_at 5 = .ok (.aload_n 0, 1) := by decide +kernel
theorem dX1_at_6 : decode cX1_at 6 = .ok (.getfield 7, 3) := by decide +kernel
theorem dX1_at_9 : decode cX1_at 9 = .ok (.arraylength, 1) := by decide +kernel
theorem dX1_at_10 : decode cX1_at 10 = .ok (.if_icmp .ge 12, 3) := by decide +kernel
theorem dX1_at_13 : decode cX1_at 13 = .ok (.aload_n 0, 1) := by decide +kernel
theorem dX1_at_14 : decode cX1_at 14 = .ok (.getfield 7, 3) := by decide +kernel
theorem dX1_at_17 : decode cX1_at 17 = .ok (.iload_n 1, 1) := by decide +kernel
theorem dX1_at_18 : decode cX1_at 18 = .ok (.iaload, 1) := by decide +kernel
theorem dX1_at_19 : decode cX1_at 19 = .ok (.goto 4, 3) := by decide +kernel
theorem dX1_at_22 : decode cX1_at 22 = .ok (.iconst 0, 1) := by decide +kernel
theorem dX1_at_23 : decode cX1_at 23 = .ok (.ireturn, 1) := by decide +kernel
theorem dX1_put_0 : decode cX1_put 0 = .ok (.iload_n 1, 1) := by decide +kernel
theorem dX1_put_1 : decode cX1_put 1 = .ok (.ifCond .lt 19, 3) := by decide +kernel
theorem dX1_put_4 : decode cX1_put 4 = .ok (.iload_n 1, 1) := by decide +kernel
theorem dX1_put_5 : decode cX1_put 5 = .ok (.aload_n 0, 1) := by decide +kernel
theorem dX1_put_6 : decode cX1_put 6 = .ok (.getfield 7, 3) := by decide +kernel
theorem dX1_put_9 : decode cX1_put 9 = .ok (.arraylength, 1) := by decide +kernel
theorem dX1_put_10 : decode cX1_put 10 = .ok (.if_icmp .ge 10, 3) := by decide +kernel
theorem dX1_put_13 : decode cX1_put 13 = .ok (.aload_n 0, 1) := by decide +kernel
theorem dX1_put_14 : decode cX1_put 14 = .ok (.getfield 7, 3) := by decide +kernel
theorem dX1_put_17 : decode cX1_put 17 = .ok (.iload_n 1, 1) := by decide +kernel
theorem dX1_put_18 : decode cX1_put 18 = .ok (.iload_n 2, 1) := by decide +kernel
theorem dX1_put_19 : decode cX1_put 19 = .ok (.iastore, 1) := by decide +kernel
theorem dX1_put_20 : decode cX1_put 20 = .ok (.return_, 1) := by decide +kernel
theorem dX1_fill_0 : decode cX1_fill 0 = .ok (.iconst 0, 1) := by decide +kernel
theorem dX1_fill_1 : decode cX1_fill 1 = .ok (.istore_n 2, 1) := by decide +kernel
theorem dX1_fill_2 : decode cX1_fill 2 = .ok (.iload_n 2, 1) := by decide +kernel
theorem dX1_fill_3 : decode cX1_fill 3 = .ok (.aload_n 0, 1) := by decide +kernel
theorem dX1_fill_4 : decode cX1_fill 4 = .ok (.getfield 7, 3) := by decide +kernel
theorem dX1_fill_7 : decode cX1_fill 7 = .ok (.arraylength, 1) := by decide +kernel
theorem dX1_fill_8 : decode cX1_fill 8 = .ok (.if_icmp .ge 16, 3) := by decide +kernel
theorem dX1_fill_11 : decode cX1_fill 11 = .ok (.aload_n 0, 1) := by decide +kernel
theorem dX1_fill_12 : decode cX1_fill 12 = .ok (.getfield 7, 3) := by decide +kernel
theorem dX1_fill_15 : decode cX1_fill 15 = .ok (.iload_n 2, 1) := by decide +kernel
theorem dX1_fill_16 : decode cX1_fill 16 = .ok (.iload_n 1, 1) := by decide +kernel
theorem dX1_fill_17 : decode cX1_fill 17 = .ok (.iastore, 1) := by decide +kernel
theorem dX1_fill_18 : decode cX1_fill 18 = .ok (.iinc 2 1, 3) := by decide +kernel
theorem dX1_fill_21 : decode cX1_fill 21 = .ok (.goto (-19), 3) := by decide +kernel
theorem dX1_fill_24 : decode cX1_fill 24 = .ok (.return_, 1) := by decide +kernel
theorem dX1_swap_0 : decode cX1_swap 0 = .ok (.aload_n 0, 1) := by decide +kernel
theorem dX1_swap_1 : decode cX1_swap 1 = .ok (.iload_n 1, 1) := by decide +kernel
theorem dX1_swap_2 : decode cX1_swap 2 = .ok (.invokevirtual 13, 3) := by decide +kernel
theorem dX1_swap_5 : decode cX1_swap 5 = .ok (.istore_n 3, 1) := by decide +kernel
theorem dX1_swap_6 : decode cX1_swap 6 = .ok (.aload_n 0, 1) := by decide +kernel
theorem dX1_swap_7 : decode cX1_swap 7 = .ok (.iload_n 1, 1) := by decide +kernel
theorem dX1_swap_8 : decode cX1_swap 8 = .ok (.aload_n 0, 1) := by decide +kernel
theorem dX1_swap_9 : decode cX1_swap 9 = .ok (.iload_n 2, 1) := by decide +kernel
theorem dX1_swap_10 : decode cX1_swap 10 = .ok (.invokevirtual 13, 3) := by decide +kernel
theorem dX1_swap_13 : decode cX1_swap 13 = .ok (.invokevirtual 17, 3) := by decide +kernel
theorem dX1_swap_16 : decode cX1_swap 16 = .ok (.aload_n 0, 1) := by decide +kernel
theorem dX1_swap_17 : decode cX1_swap 17 = .ok (.iload_n 2, 1) := by decide +kernel
theorem dX1_swap_18 : decode cX1_swap 18 = .ok (.iload_n 3, 1) := by decide +kernel
theorem dX1_swap_19 : decode cX1_swap 19 = .ok (.invokevirtual 17, 3) := by decide +kernel
theorem dX1_swap_22 : decode cX1_swap 22 = .ok (.return_, 1) := by decide +kernel
theorem dX1_copyFrom_0 : decode cX1_copyFrom 0 = .ok (.iconst 0, 1) := by decide +kernel
theorem dX1_copyFrom_1 : decode cX1_copyFrom 1 = .ok (.istore_n 2, 1) := by decide +kernel
theorem dX1_copyFrom_2 : decode cX1_copyFrom 2 = .ok (.iload_n 2, 1) := by decide +kernel
theorem dX1_copyFrom_3 : decode cX1_copyFrom 3 = .ok (.aload_n 0, 1) := by decide +kernel
theorem dX1_copyFrom_4 : decode cX1_copyFrom 4 = .ok (.getfield 7, 3) := by decide +kernel
theorem dX1_copyFrom_7 : decode cX1_copyFrom 7 = .ok (.arraylength, 1) := by decide +kernel
theorem dX1_copyFrom_8 : decode cX1_copyFrom 8 = .ok (.if_icmp .ge 20, 3) := by decide +kernel
theorem dX1_copyFrom_11 : decode cX1_copyFrom 11 = .ok (.aload_n 0, 1) := by decide +kernel
theorem dX1_copyFrom_12 : decode cX1_copyFrom 12 = .ok (.getfield 7, 3) := by decide +kernel
theorem dX1_copyFrom_15 : decode cX1_copyFrom 15 = .ok (.iload_n 2, 1) := by decide +kernel
theorem dX1_copyFrom_16 : decode cX1_copyFrom 16 = .ok (.aload_n 1, 1) := by decide +kernel
theorem dX1_copyFrom_17 : decode cX1_copyFrom 17 = .ok (.iload_n 2, 1) := by decide +kernel
theorem dX1_copyFrom_18 : decode cX1_copyFrom 18 = .ok (.invokevirtual 13, 3) := by decide +kernel
theorem dX1_copyFrom_21 : decode cX1_copyFrom 21 = .ok (.iastore, 1) := by decide +kernel
theorem dX1_copyFrom_22 : decode cX1_copyFrom 22 = .ok (.iinc 2 1, 3) := by decide +kernel
theorem dX1_copyFrom_25 : decode cX1_copyFrom 25 = .ok (.goto (-23), 3) := by decide +kernel
theorem dX1_copyFrom_28 : decode cX1_copyFrom 28 = .ok (.return_, 1) := by decide +kernel
theorem dX2_init_0 : decode cX2_init 0 = .ok (.aload_n 0, 1) := by decide +kernel
theorem dX2_init_1 : decode cX2_init 1 = .ok (.invokespecial 3, 3) := by decide +kernel
theorem dX2_init_4 : decode cX2_init 4 = .ok (.aload_n 0, 1) := by decide +kernel
theorem dX2_init_5 : decode cX2_init 5 = .ok (.iconst 0, 1) := by decide +kernel
theorem dX2_init_6 : decode cX2_init 6 = .ok (.putfield 9, 3) := by decide +kernel
theorem dX2_init_9 : decode cX2_init 9 = .ok (.aload_n 0, 1) := by decide +kernel
theorem dX2_init_10 : decode cX2_init 10 = .ok (.new 15, 3) := by decide +kernel
theorem dX2_init_13 : decode cX2_init 13 = .ok (.dup, 1) := by decide +kernel
theorem dX2_init_14 : decode cX2_init 14 = .ok (.bipush 32, 2) := by decide +kernel
theorem dX2_init_16 : decode cX2_init 16 = .ok (.invokespecial 17, 3) := by decide +kernel
theorem dX2_init_19 : decode cX2_init 19 = .ok (.putfield 20, 3) := by decide +kernel
theorem dX2_init_22 : decode cX2_init 22 = .ok (.aload_n 0, 1) := by decide +kernel
theorem dX2_init_23 : decode cX2_init 23 = .ok (.new 15, 3) := by decide +kernel
theorem dX2_init_26 : decode cX2_init 26 = .ok (.dup, 1) := by decide +kernel
theorem dX2_init_27 : decode cX2_init 27 = .ok (.bipush 32, 2) := by decide +kernel
theorem dX2_init_29 : decode cX2_init 29 = .ok (.invokespecial 17, 3) := by decide +kernel
theorem dX2_init_32 : decode cX2_init 32 = .ok (.putfield 24, 3) := by decide +kernel
theorem dX2_init_35 : decode cX2_init 35 = .ok (.aload_n 0, 1) := by decide +kernel
theorem dX2_init_36 : decode cX2_init 36 = .ok (.new 15, 3) := by decide +kernel
theorem dX2_init_39 : decode cX2_init 39 = .ok (.dup, 1) := by decide +kernel
theorem dX2_init_40 : decode cX2_init 40 = .ok (.bipush 32, 2) := by decide +kernel
theorem dX2_init_42 : decode cX2_init 42 = .ok (.invokespecial 17, 3) := by decide +kernel
theorem dX2_init_45 : decode cX2_init 45 = .ok (.putfield 27, 3) := by decide +kernel
theorem dX2_init_48 : decode cX2_init 48 = .ok (.aload_n 0, 1) := by decide +kernel
theorem dX2_init_49 : decode cX2_init 49 = .ok (.new 15, 3) := by decide +kernel
theorem dX2_init_52 : decode cX2_init 52 = .ok (.dup, 1) := by decide +kernel
theorem dX2_init_53 : decode cX2_init 53 = .ok (.bipush 32, 2) := by decide +kernel
theorem dX2_init_55 : decode cX2_init 55 = .ok (.invokespecial 17, 3) := by decide +kernel
theorem dX2_init_58 : decode cX2_init 58 = .ok (.putfield 30, 3) := by decide +kernel
theorem dX2_init_61 : decode cX2_init 61 = .ok (.aload_n 0, 1) := by decide +kernel
theorem dX2_init_62 : decode cX2_init 62 = .ok (.new 15, 3) := by decide +kernel
theorem dX2_init_65 : decode cX2_init 65 = .ok (.dup, 1) := by decide +kernel
theorem dX2_init_66 : decode cX2_init 66 = .ok (.bipush 96, 2) := by decide +kernel
theorem dX2_init_68 : decode cX2_init 68 = .ok (.invokespecial 17, 3) := by decide +kernel
theorem dX2_init_71 : decode cX2_init 71 = .ok (.putfield 33, 3) := by decide +kernel
theorem dX2_init_74 : decode cX2_init 74 = .ok (.aload_n 0, 1) := by decide +kernel
theorem dX2_init_75 : decode cX2_init 75 = .ok (.new 15, 3) := by decide +kernel
theorem dX2_init_78 : decode cX2_init 78 = .ok (.dup, 1) := by decide +kernel
theorem dX2_init_79 : decode cX2_init 79 = .ok (.bipush 96, 2) := by decide +kernel
theorem dX2_init_81 : decode cX2_init 81 = .ok (.invokespecial 17, 3) := by decide +kernel
theorem dX2_init_84 : decode cX2_init 84 = .ok (.putfield 36, 3) := by decide +kernel
theorem dX2_init_87 : decode cX2_init 87 = .ok (.aload_n 0, 1) := by decide +kernel
theorem dX2_init_88 : decode cX2_init 88 = .ok (.new 15, 3) := by decide +kernel
theorem dX2_init_91 : decode cX2_init 91 = .ok (.dup, 1) := by decide +kernel
theorem dX2_init_92 : decode cX2_init 92 = .ok (.bipush 96, 2) := by decide +kernel
theorem dX2_init_94 : decode cX2_init 94 = .ok (.invokespecial 17, 3) := by decide +kernel
theorem dX2_init_97 : decode cX2_init 97 = .ok (.putfield 39, 3) := by decide +kernel
theorem dX2_init_100 : decode cX2_init 100 = .ok (.aload_n 0, 1) := by decide +kernel
theorem dX2_init_101 : decode cX2_init 101 = .ok (.new 15, 3) := by decide +kernel
theorem dX2_init_104 : decode cX2_init 104 = .ok (.dup, 1) := by decide +kernel
theorem dX2_init_105 : decode cX2_init 105 = .ok (.iconst 2, 1) := by decide +kernel
theorem dX2_init_106 : decode cX2_init 106 = .ok (.invokespecial 17, 3) := by decide +kernel
theorem dX2_init_109 : decode cX2_init 109 = .ok (.putfield 42, 3) := by decide +kernel
theorem dX2_init_112 : decode cX2_init 112 = .ok (.aload_n 0, 1) := by decide +kernel
theorem dX2_init_113 : decode cX2_init 113 = .ok (.getfield 42, 3) := by decide +kernel
theorem dX2_init_116 : decode cX2_init 116 = .ok (.iconst (-1), 1) := by decide +kernel
theorem dX2_init_117 : decode cX2_init 117 = .ok (.invokevirtual 45, 3) := by decide +kernel
theorem dX2_init_120 : decode cX2_init 120 = .ok (.aload_n 0, 1) := by decide +kernel
theorem dX2_init_121 : decode cX2_init 121 = .ok (.new 15, 3) := by decide +kernel
theorem dX2_init_124 : decode cX2_init 124 = .ok (.dup, 1) := by decide +kernel
theorem dX2_init_125 : decode cX2_init 125 = .ok (.iconst 2, 1) := by decide +kernel
theorem dX2_init_126 : decode cX2_init 126 = .ok (.invokespecial 17, 3) := by decide +kernel
theorem dX2_init_129 : decode cX2_init 129 = .ok (.putfield 48, 3) := by decide +kernel
theorem dX2_init_132 : decode cX2_init 132 = .ok (.aload_n 0, 1) := by decide +kernel
theorem dX2_init_133 : decode cX2_init 133 = .ok (.iconst (-1), 1) := by decide +kernel
theorem dX2_init_134 : decode cX2_init 134 = .ok (.putfield 51, 3) := by decide +kernel
theorem dX2_init_137 : decode cX2_init 137 = .ok (.return_, 1) := by decide +kernel
theorem dX2_copyFrom_0 : decode cX2_copyFrom 0 = .ok (.aload_n 0, 1) := by decide +kernel
theorem dX2_copyFrom_1 : decode cX2_copyFrom 1 = .ok (.aload_n 1, 1) := by decide +kernel
theorem dX2_copyFrom_2 : decode cX2_copyFrom 2 = .ok (.getfield 9, 3) := by decide +kernel
theorem dX2_copyFrom_5 : decode cX2_copyFrom 5 = .ok (.putfield 9, 3) := by decide +kernel
theorem dX2_copyFrom_8 : decode cX2_copyFrom 8 = .ok (.aload_n 0, 1) := by decide +kernel
theorem dX2_copyFrom_9 : decode cX2_copyFrom 9 = .ok (.getfield 20, 3) := by decide +kernel
theorem dX2_copyFrom_12 : decode cX2_copyFrom 12 = .ok (.aload_n 1, 1) := by decide +kernel
theorem dX2_copyFrom_13 : decode cX2_copyFrom 13 = .ok (.getfield 20, 3) := by decide +kernel
theorem dX2_copyFrom_16 : decode cX2_copyFrom 16 = .ok (.invokevirtual 54, 3) := by decide +kernel
theorem dX2_copyFrom_19 : decode cX2_copyFrom 19 = .ok (.aload_n 0, 1) := by decide +kernel
theorem dX2_copyFrom_20 : decode cX2_copyFrom 20 = .ok (.getfield 24, 3) := by decide +kernel
theorem dX2_copyFrom_23 : decode cX2_copyFrom 23 = .ok (.aload_n 1, 1) := by decide +kernel
theorem dX2_copyFrom_24 : decode cX2_copyFrom 24 = .ok (.getfield 24, 3) := by decide +kernel
theorem dX2_copyFrom_27 : decode cX2_copyFrom 27 = .ok (.invokevirtual 54, 3) := by decide +kernel
theorem dX2_copyFrom_30 : decode cX2_copyFrom 30 = .ok (.aload_n 0, 1) := by decide +kernel
theorem dX2_copyFrom_31 : decode cX2_copyFrom 31 = .ok (.getfield 27, 3) := by decide +kernel
theorem dX2_copyFrom_34 : decode cX2_copyFrom 34 = .ok (.aload_n 1, 1) := by decide +kernel
theorem dX2_copyFrom_35 : decode cX2_copyFrom 35 = .ok (.getfield 27, 3) := by decide +kernel
theorem dX2_copyFrom_38 : decode cX2_copyFrom 38 = .ok (.invokevirtual 54, 3) := by decide +kernel
theorem dX2_copyFrom_41 : decode cX2_copyFrom 41 = .ok (.aload_n 0, 1) := by decide +kernel
theorem dX2_copyFrom_42 : decode cX2_copyFrom 42 = .ok (.getfield 30, 3) := by decide +kernel
theorem dX2_copyFrom_45 : decode cX2_copyFrom 45 = .ok (.aload_n 1, 1) := by decide +kernel
theorem dX2_copyFrom_46 : decode cX2_copyFrom 46 = .ok (.getfield 30, 3) := by decide +kernel
theorem dX2_copyFrom_49 : decode cX2_copyFrom 49 = .ok (.invokevirtual 54, 3) := by decide +kernel
theorem dX2_copyFrom_52 : decode cX2_copyFrom 52 = .ok (.aload_n 0, 1) := by decide +kernel
theorem dX2_copyFrom_53 : decode cX2_copyFrom 53 = .ok (.getfield 33, 3) := by decide +kernel
theorem dX2_copyFrom_56 : decode cX2_copyFrom 56 = .ok (.aload_n 1, 1) := by decide +kernel
theorem dX2_copyFrom_57 : decode cX2_copyFrom 57 = .ok (.getfield 33, 3) := by decide +kernel
theorem dX2_copyFrom_60 : decode cX2_copyFrom 60 = .ok (.invokevirtual 54, 3) := by decide +kernel
theorem dX2_copyFrom_63 : decode cX2_copyFrom 63 = .ok (.aload_n 0, 1) := by decide +kernel
theorem dX2_copyFrom_64 : decode cX2_copyFrom 64 = .ok (.getfield 36, 3) := by decide +kernel
theorem dX2_copyFrom_67 : decode cX2_copyFrom 67 = .ok (.aload_n 1, 1) := by decide +kernel
theorem dX2_copyFrom_68 : decode cX2_copyFrom 68 = .ok (.getfield 36, 3) := by decide +kernel
theorem dX2_copyFrom_71 : decode cX2_copyFrom 71 = .ok (.invokevirtual 54, 3) := by decide +kernel
theorem dX2_copyFrom_74 : decode cX2_copyFrom 74 = .ok (.aload_n 0, 1) := by decide +kernel
theorem dX2_copyFrom_75 : decode cX2_copyFrom 75 = .ok (.getfield 39, 3) := by decide +kernel
theorem dX2_copyFrom_78 : decode cX2_copyFrom 78 = .ok (.aload_n 1, 1) := by decide +kernel
theorem dX2_copyFrom_79 : decode cX2_copyFrom 79 = .ok (.getfield 39, 3) := by decide +kernel
theorem dX2_copyFrom_82 : decode cX2_copyFrom 82 = .ok (.invokevirtual 54, 3) := by decide +kernel
theorem dX2_copyFrom_85 : decode cX2_copyFrom 85 = .ok (.aload_n 0, 1) := by decide +kernel
theorem dX2_copyFrom_86 : decode cX2_copyFrom 86 = .ok (.getfield 42, 3) := by decide +kernel
theorem dX2_copyFrom_89 : decode cX2_copyFrom 89 = .ok (.aload_n 1, 1) := by decide +kernel
theorem dX2_copyFrom_90 : decode cX2_copyFrom 90 = .ok (.getfield 42, 3) := by decide +kernel
theorem dX2_copyFrom_93 : decode cX2_copyFrom 93 = .ok (.invokevirtual 54, 3) := by decide +kernel
theorem dX2_copyFrom_96 : decode cX2_copyFrom 96 = .ok (.aload_n 0, 1) := by decide +kernel
theorem dX2_copyFrom_97 : decode cX2_copyFrom 97 = .ok (.getfield 48, 3) := by decide +kernel
theorem dX2_copyFrom_100 : decode cX2_copyFrom 100 = .ok (.aload_n 1, 1) := by decide +kernel
theorem dX2_copyFrom_101 : decode cX2_copyFrom 101 = .ok (.getfield 48, 3) := by decide +kernel
theorem dX2_copyFrom_104 : decode cX2_copyFrom 104 = .ok (.invokevirtual 54, 3) := by decide +kernel
theorem dX2_copyFrom_107 : decode cX2_copyFrom 107 = .ok (.aload_n 0, 1) := by decide +kernel
theorem dX2_copyFrom_108 : decode cX2_copyFrom 108 = .ok (.aload_n 1, 1) := by decide +kernel
theorem dX2_copyFrom_109 : decode cX2_copyFrom 109 = .ok (.getfield 51, 3) := by decide +kernel
theorem dX2_copyFrom_112 : decode cX2_copyFrom 112 = .ok (.putfield 51, 3) := by decide +kernel
theorem dX2_copyFrom_115 : decode cX2_copyFrom 115 = .ok (.return_, 1) := by decide +kernel
theorem dX2_hasPage_0 : decode cX2_hasPage 0 = .ok (.iload_n 1, 1) := by decide +kernel
theorem dX2_hasPage_1 : decode cX2_hasPage 1 = .ok (.ifCond .lt 15, 3) := by decide +kernel
theorem dX2_hasPage_4 : decode cX2_hasPage 4 = .ok (.iload_n 1, 1) := by decide +kernel
theorem dX2_hasPage_5 : decode cX2_hasPage 5 = .ok (.aload_n 0, 1) := by decide +kernel
theorem dX2_hasPage_6 : decode cX2_hasPage 6 = .ok (.getfield 9, 3) := by decide +kernel
theorem dX2_hasPage_9 : decode cX2_hasPage 9 = .ok (.if_icmp .ge 7, 3) := by decide +kernel
theorem dX2_hasPage_12 : decode cX2_hasPage 12 = .ok (.iconst 1, 1) := by decide +kernel
theorem dX2_hasPage_13 : decode cX2_hasPage 13 = .ok (.goto 4, 3) := by decide +kernel
theorem dX2_hasPage_16 : decode cX2_hasPage 16 = .ok (.iconst 0, 1) := by decide +kernel
theorem dX2_hasPage_17 : decode cX2_hasPage 17 = .ok (.ireturn, 1) := by decide +kernel
theorem dX2_hasChoice_0 : decode cX2_hasChoice 0 = .ok (.aload_n 0, 1) := by decide +kernel
theorem dX2_hasChoice_1 : decode cX2_hasChoice 1 = .ok (.iload_n 1, 1) := by decide +kernel
theorem dX2_hasChoice_2 : decode cX2_hasChoice 2 = .ok (.invokevirtual 58, 3) := by decide +kernel
theorem dX2_hasChoice_5 : decode cX2_hasChoice 5 = .ok (.ifCond .eq 23, 3) := by decide +kernel
theorem dX2_hasChoice_8 : decode cX2_hasChoice 8 = .ok (.iload_n 2, 1) := by decide +kernel
theorem dX2_hasChoice_9 : decode cX2_hasChoice 9 = .ok (.ifCond .lt 19, 3) := by decide +kernel
theorem dX2_hasChoice_12 : decode cX2_hasChoice 12 = .ok (.iload_n 2, 1) := by decide +kernel
theorem dX2_hasChoice_13 : decode cX2_hasChoice 13 = .ok (.aload_n 0, 1) := by decide +kernel
theorem dX2_hasChoice_14 : decode cX2_hasChoice 14 = .ok (.getfield 30, 3) := by decide +kernel
theorem dX2_hasChoice_17 : decode cX2_hasChoice 17 = .ok (.iload_n 1, 1) := by decide +kernel
theorem dX2_hasChoice_18 : decode cX2_hasChoice 18 = .ok (.invokevirtual 62, 3) := by decide +kernel
theorem dX2_hasChoice_21 : decode cX2_hasChoice 21 = .ok (.if_icmp .ge 7, 3) := by decide +kernel
theorem dX2_hasChoice_24 : decode cX2_hasChoice 24 = .ok (.iconst 1, 1) := by decide +kernel
theorem dX2_hasChoice_25 : decode cX2_hasChoice 25 = .ok (.goto 4, 3) := by decide +kernel
theorem dX2_hasChoice_28 : decode cX2_hasChoice 28 = .ok (.iconst 0, 1) := by decide +kernel
theorem dX2_hasChoice_29 : decode cX2_hasChoice 29 = .ok (.ireturn, 1) := by decide +kernel
theorem dX2_bindPage_0 : decode cX2_bindPage 0 = .ok (.aload_n 0, 1) := by decide +kernel
theorem dX2_bindPage_1 : decode cX2_bindPage 1 = .ok (.getfield 9, 3) := by decide +kernel
theorem dX2_bindPage_4 : decode cX2_bindPage 4 = .ok (.istore 4, 2) := by decide +kernel
theorem dX2_bindPage_6 : decode cX2_bindPage 6 = .ok (.aload_n 0, 1) := by decide +kernel
theorem dX2_bindPage_7 : decode cX2_bindPage 7 = .ok (.getfield 20, 3) := by decide +kernel
theorem dX2_bindPage_10 : decode cX2_bindPage 10 = .ok (.iload 4, 2) := by decide +kernel
theorem dX2_bindPage_12 : decode cX2_bindPage 12 = .ok (.iload_n 1, 1) := by decide +kernel
theorem dX2_bindPage_13 : decode cX2_bindPage 13 = .ok (.invokevirtual 66, 3) := by decide +kernel
theorem dX2_bindPage_16 : decode cX2_bindPage 16 = .ok (.aload_n 0, 1) := by decide +kernel
theorem dX2_bindPage_17 : decode cX2_bindPage 17 = .ok (.getfield 24, 3) := by decide +kernel
theorem dX2_bindPage_20 : decode cX2_bindPage 20 = .ok (.iload 4, 2) := by decide +kernel
theorem dX2_bindPage_22 : decode cX2_bindPage 22 = .ok (.iload_n 2, 1) := by decide +kernel
theorem dX2_bindPage_23 : decode cX2_bindPage 23 = .ok (.invokevirtual 66, 3) := by decide +kernel
theorem dX2_bindPage_26 : decode cX2_bindPage 26 = .ok (.aload_n 0, 1) := by decide +kernel
theorem dX2_bindPage_27 : decode cX2_bindPage 27 = .ok (.getfield 27, 3) := by decide +kernel
theorem dX2_bindPage_30 : decode cX2_bindPage 30 = .ok (.iload 4, 2) := by decide +kernel
theorem dX2_bindPage_32 : decode cX2_bindPage 32 = .ok (.iload_n 3, 1) := by decide +kernel
theorem dX2_bindPage_33 : decode cX2_bindPage 33 = .ok (.invokevirtual 66, 3) := by decide +kernel
theorem dX2_bindPage_36 : decode cX2_bindPage 36 = .ok (.aload_n 0, 1) := by decide +kernel
theorem dX2_bindPage_37 : decode cX2_bindPage 37 = .ok (.getfield 30, 3) := by decide +kernel
theorem dX2_bindPage_40 : decode cX2_bindPage 40 = .ok (.iload 4, 2) := by decide +kernel
theorem dX2_bindPage_42 : decode cX2_bindPage 42 = .ok (.iconst 0, 1) := by decide +kernel
theorem dX2_bindPage_43 : decode cX2_bindPage 43 = .ok (.invokevirtual 66, 3) := by decide +kernel
theorem dX2_bindPage_46 : decode cX2_bindPage 46 = .ok (.aload_n 0, 1) := by decide +kernel
theorem dX2_bindPage_47 : decode cX2_bindPage 47 = .ok (.iload 4, 2) := by decide +kernel
theorem dX2_bindPage_49 : decode cX2_bindPage 49 = .ok (.iconst 1, 1) := by decide +kernel
theorem dX2_bindPage_50 : decode cX2_bindPage 50 = .ok (.iadd, 1) := by decide +kernel
theorem dX2_bindPage_51 : decode cX2_bindPage 51 = .ok (.putfield 9, 3) := by decide +kernel
theorem dX2_bindPage_54 : decode cX2_bindPage 54 = .ok (.iload 4, 2) := by decide +kernel
theorem dX2_bindPage_56 : decode cX2_bindPage 56 = .ok (.ireturn, 1) := by decide +kernel
theorem dX2_errorOfChoice_0 : decode cX2_errorOfChoice 0 = .ok (.aload_n 0, 1) := by decide +kernel
theorem dX2_errorOfChoice_1 : decode cX2_errorOfChoice 1 = .ok (.iload_n 1, 1) := by decide +kernel
theorem dX2_errorOfChoice_2 : decode cX2_errorOfChoice 2 = .ok (.invokevirtual 58, 3) := by decide +kernel
theorem dX2_errorOfChoice_5 : decode cX2_errorOfChoice 5 = .ok (.ifCond .eq 11, 3) := by decide +kernel
theorem dX2_errorOfChoice_8 : decode cX2_errorOfChoice 8 = .ok (.aload_n 0, 1) := by decide +kernel
theorem dX2_errorOfChoice_9 : decode cX2_errorOfChoice 9 = .ok (.iload_n 2, 1) := by decide +kernel
theorem dX2_errorOfChoice_10 : decode cX2_errorOfChoice 10 = .ok (.invokevirtual 58, 3) := by decide +kernel
theorem dX2_errorOfChoice_13 : decode cX2_errorOfChoice 13 = .ok (.ifCond .ne 5, 3) := by decide +kernel
theorem dX2_errorOfChoice_16 : decode cX2_errorOfChoice 16 = .ok (.iconst (-1), 1) := by decide +kernel
theorem dX2_errorOfChoice_17 : decode cX2_errorOfChoice 17 = .ok (.ireturn, 1) := by decide +kernel
theorem dX2_errorOfChoice_18 : decode cX2_errorOfChoice 18 = .ok (.iload_n 3, 1) := by decide +kernel
theorem dX2_errorOfChoice_19 : decode cX2_errorOfChoice 19 = .ok (.invokestatic 70, 3) := by decide +kernel
theorem dX2_errorOfChoice_22 : decode cX2_errorOfChoice 22 = .ok (.ifCond .eq 11, 3) := by decide +kernel
theorem dX2_errorOfChoice_25 : decode cX2_errorOfChoice 25 = .ok (.iload 4, 2) := by decide +kernel
theorem dX2_errorOfChoice_27 : decode cX2_errorOfChoice 27 = .ok (.invokestatic 70, 3) := by decide +kernel
theorem dX2_errorOfChoice_30 : decode cX2_errorOfChoice 30 = .ok (.ifCond .ne 6, 3) := by decide +kernel
theorem dX2_errorOfChoice_33 : decode cX2_errorOfChoice 33 = .ok (.bipush (-2), 2) := by decide +kernel
theorem dX2_errorOfChoice_35 : decode cX2_errorOfChoice 35 = .ok (.ireturn, 1) := by decide +kernel
theorem dX2_errorOfChoice_36 : decode cX2_errorOfChoice 36 = .ok (.aload_n 0, 1) := by decide +kernel
theorem dX2_errorOfChoice_37 : decode cX2_errorOfChoice 37 = .ok (.getfield 30, 3) := by decide +kernel
theorem dX2_errorOfChoice_40 : decode cX2_errorOfChoice 40 = .ok (.iload_n 1, 1) := by decide +kernel
theorem dX2_errorOfChoice_41 : decode cX2_errorOfChoice 41 = .ok (.invokevirtual 62, 3) := by decide +kernel
theorem dX2_errorOfChoice_44 : decode cX2_errorOfChoice 44 = .ok (.iconst 3, 1) := by decide +kernel
theorem dX2_errorOfChoice_45 : decode cX2_errorOfChoice 45 = .ok (.if_icmp .lt 8, 3) := by decide +kernel
theorem dX2_errorOfChoice_48 : decode cX2_errorOfChoice 48 = .ok (.bipush (-3), 2) := by decide +kernel
theorem dX2_errorOfChoice_50 : decode cX2_errorOfChoice 50 = .ok (.goto 4, 3) := by decide +kernel
theorem dX2_errorOfChoice_53 : decode cX2_errorOfChoice 53 = .ok (.iconst 0, 1) := by decide +kernel
theorem dX2_errorOfChoice_54 : decode cX2_errorOfChoice 54 = .ok (.ireturn, 1) := by decide +kernel
theorem dX2_appendChoice_0 : decode cX2_appendChoice 0 = .ok (.aload_n 0, 1) := by decide +kernel
theorem dX2_appendChoice_1 : decode cX2_appendChoice 1 = .ok (.getfield 30, 3) := by decide +kernel
theorem dX2_appendChoice_4 : decode cX2_appendChoice 4 = .ok (.iload_n 1, 1) := by decide +kernel
theorem dX2_appendChoice_5 : decode cX2_appendChoice 5 = .ok (.invokevirtual 62, 3) := by decide +kernel
theorem dX2_appendChoice_8 : decode cX2_appendChoice 8 = .ok (.istore 5, 2) := by decide +kernel
theorem dX2_appendChoice_10 : decode cX2_appendChoice 10 = .ok (.iload_n 1, 1) := by decide +kernel
theorem dX2_appendChoice_11 : decode cX2_appendChoice 11 = .ok (.iload 5, 2) := by decide +kernel
theorem dX2_appendChoice_13 : decode cX2_appendChoice 13 = .ok (.invokestatic 73, 3) := by decide +kernel
theorem dX2_appendChoice_16 : decode cX2_appendChoice 16 = .ok (.istore 6, 2) := by decide +kernel
theorem dX2_appendChoice_18 : decode cX2_appendChoice 18 = .ok (.aload_n 0, 1) := by decide +kernel
theorem dX2_appendChoice_19 : decode cX2_appendChoice 19 = .ok (.getfield 33, 3) := by decide +kernel
theorem dX2_appendChoice_22 : decode cX2_appendChoice 22 = .ok (.iload 6, 2) := by decide +kernel
theorem dX2_appendChoice_24 : decode cX2_appendChoice 24 = .ok (.iload_n 2, 1) := by decide +kernel
theorem dX2_appendChoice_25 : decode cX2_appendChoice 25 = .ok (.invokevirtual 66, 3) := by decide +kernel
theorem dX2_appendChoice_28 : decode cX2_appendChoice 28 = .ok (.aload_n 0, 1) := by decide +kernel
theorem dX2_appendChoice_29 : decode cX2_appendChoice 29 = .ok (.getfield 36, 3) := by decide +kernel
theorem dX2_appendChoice_32 : decode cX2_appendChoice 32 = .ok (.iload 6, 2) := by decide +kernel
theorem dX2_appendChoice_34 : decode cX2_appendChoice 34 = .ok (.iload_n 3, 1) := by decide +kernel
theorem dX2_appendChoice_35 : decode cX2_appendChoice 35 = .ok (.invokevirtual 66, 3) := by decide +kernel
theorem dX2_appendChoice_38 : decode cX2_appendChoice 38 = .ok (.aload_n 0, 1) := by decide +kernel
theorem dX2_appendChoice_39 : decode cX2_appendChoice 39 = .ok (.getfield 39, 3) := by decide +kernel
theorem dX2_appendChoice_42 : decode cX2_appendChoice 42 = .ok (.iload 6, 2) := by decide +kernel
theorem dX2_appendChoice_44 : decode cX2_appendChoice 44 = .ok (.iload 4, 2) := by decide +kernel
theorem dX2_appendChoice_46 : decode cX2_appendChoice 46 = .ok (.invokevirtual 66, 3) := by decide +kernel
theorem dX2_appendChoice_49 : decode cX2_appendChoice 49 = .ok (.aload_n 0, 1) := by decide +kernel
theorem dX2_appendChoice_50 : decode cX2_appendChoice 50 = .ok (.getfield 30, 3) := by decide +kernel
theorem dX2_appendChoice_53 : decode cX2_appendChoice 53 = .ok (.iload_n 1, 1) := by decide +kernel
theorem dX2_appendChoice_54 : decode cX2_appendChoice 54 = .ok (.iload 5, 2) := by decide +kernel
theorem dX2_appendChoice_56 : decode cX2_appendChoice 56 = .ok (.iconst 1, 1) := by decide +kernel
theorem dX2_appendChoice_57 : decode cX2_appendChoice 57 = .ok (.iadd, 1) := by decide +kernel
theorem dX2_appendChoice_58 : decode cX2_appendChoice 58 = .ok (.invokevirtual 66, 3) := by decide +kernel
theorem dX2_appendChoice_61 : decode cX2_appendChoice 61 = .ok (.iload 5, 2) := by decide +kernel
theorem dX2_appendChoice_63 : decode cX2_appendChoice 63 = .ok (.ireturn, 1) := by decide +kernel
theorem dX2_removeChoice_0 : decode cX2_removeChoice 0 = .ok (.aload_n 0, 1) := by decide +kernel
theorem dX2_removeChoice_1 : decode cX2_removeChoice 1 = .ok (.getfield 33, 3) := by decide +kernel
theorem dX2_removeChoice_4 : decode cX2_removeChoice 4 = .ok (.iload_n 1, 1) := by decide +kernel
theorem dX2_removeChoice_5 : decode cX2_removeChoice 5 = .ok (.iload_n 2, 1) := by decide +kernel
theorem dX2_removeChoice_6 : decode cX2_removeChoice 6 = .ok (.invokestatic 73, 3) := by decide +kernel
theorem dX2_removeChoice_9 : decode cX2_removeChoice 9 = .ok (.invokevirtual 62, 3) := by decide +kernel
theorem dX2_removeChoice_12 : decode cX2_removeChoice 12 = .ok (.istore_n 3, 1) := by decide +kernel
theorem dX2_removeChoice_13 : decode cX2_removeChoice 13 = .ok (.aload_n 0, 1) := by decide +kernel
theorem dX2_removeChoice_14 : decode cX2_removeChoice 14 = .ok (.getfield 30, 3) := by decide +kernel
theorem dX2_removeChoice_17 : decode cX2_removeChoice 17 = .ok (.iload_n 1, 1) := by decide +kernel
theorem dX2_removeChoice_18 : decode cX2_removeChoice 18 = .ok (.invokevirtual 62, 3) := by decide +kernel
theorem dX2_removeChoice_21 : decode cX2_removeChoice 21 = .ok (.iconst 1, 1) := by decide +kernel
theorem dX2_removeChoice_22 : decode cX2_removeChoice 22 = .ok (.isub, 1) := by decide +kernel
theorem dX2_removeChoice_23 : decode cX2_removeChoice 23 = .ok (.istore 4, 2) := by decide +kernel
theorem dX2_removeChoice_25 : decode cX2_removeChoice 25 = .ok (.iload_n 2, 1) := by decide +kernel
theorem dX2_removeChoice_26 : decode cX2_removeChoice 26 = .ok (.istore 5, 2) := by decide +kernel
theorem dX2_removeChoice_28 : decode cX2_removeChoice 28 = .ok (.iload 5, 2) := by decide +kernel
theorem dX2_removeChoice_30 : decode cX2_removeChoice 30 = .ok (.iload 4, 2) := by decide +kernel
theorem dX2_removeChoice_32 : decode cX2_removeChoice 32 = .ok (.if_icmp .ge 83, 3) := by decide +kernel
theorem dX2_removeChoice_35 : decode cX2_removeChoice 35 = .ok (.iload 5, 2) := by decide +kernel
theorem dX2_removeChoice_37 : decode cX2_removeChoice 37 = .ok (.iconst 3, 1) := by decide +kernel
theorem dX2_removeChoice_38 : decode cX2_removeChoice 38 = .ok (.if_icmp .ge 77, 3) := by decide +kernel
theorem dX2_removeChoice_41 : decode cX2_removeChoice 41 = .ok (.iload_n 1, 1) := by decide +kernel
theorem dX2_removeChoice_42 : decode cX2_removeChoice 42 = .ok (.iload 5, 2) := by decide +kernel
theorem dX2_removeChoice_44 : decode cX2_removeChoice 44 = .ok (.invokestatic 73, 3) := by decide +kernel
theorem dX2_removeChoice_47 : decode cX2_removeChoice 47 = .ok (.istore 6, 2) := by decide +kernel
theorem dX2_removeChoice_49 : decode cX2_removeChoice 49 = .ok (.aload_n 0, 1) := by decide +kernel
theorem dX2_removeChoice_50 : decode cX2_removeChoice 50 = .ok (.getfield 33, 3) := by decide +kernel
theorem dX2_removeChoice_53 : decode cX2_removeChoice 53 = .ok (.iload 6, 2) := by decide +kernel
theorem dX2_removeChoice_55 : decode cX2_removeChoice 55 = .ok (.aload_n 0, 1) := by decide +kernel
theorem dX2_removeChoice_56 : decode cX2_removeChoice 56 = .ok (.getfield 33, 3) := by decide +kernel
theorem dX2_removeChoice_59 : decode cX2_removeChoice 59 = .ok (.iload 6, 2) := by decide +kernel
theorem dX2_removeChoice_61 : decode cX2_removeChoice 61 = .ok (.iconst 1, 1) := by decide +kernel
theorem dX2_removeChoice_62 : decode cX2_removeChoice 62 = .ok (.iadd, 1) := by decide +kernel
theorem dX2_removeChoice_63 : decode cX2_removeChoice 63 = .ok (.invokevirtual 62, 3) := by decide +kernel
theorem dX2_removeChoice_66 : decode cX2_removeChoice 66 = .ok (.invokevirtual 66, 3) := by decide +kernel
theorem dX2_removeChoice_69 : decode cX2_removeChoice 69 = .ok (.aload_n 0, 1) := by decide +kernel
theorem dX2_removeChoice_70 : decode cX2_removeChoice 70 = .ok (.getfield 36, 3) := by decide +kernel
theorem dX2_removeChoice_73 : decode cX2_removeChoice 73 = .ok (.iload 6, 2) := by decide +kernel
theorem dX2_removeChoice_75 : decode cX2_removeChoice 75 = .ok (.aload_n 0, 1) := by decide +kernel
theorem dX2_removeChoice_76 : decode cX2_removeChoice 76 = .ok (.getfield 36, 3) := by decide +kernel
theorem dX2_removeChoice_79 : decode cX2_removeChoice 79 = .ok (.iload 6, 2) := by decide +kernel
theorem dX2_removeChoice_81 : decode cX2_removeChoice 81 = .ok (.iconst 1, 1) := by decide +kernel
theorem dX2_removeChoice_82 : decode cX2_removeChoice 82 = .ok (.iadd, 1) := by decide +kernel
theorem dX2_removeChoice_83 : decode cX2_removeChoice 83 = .ok (.invokevirtual 62, 3) := by decide +kernel
theorem dX2_removeChoice_86 : decode cX2_removeChoice 86 = .ok (.invokevirtual 66, 3) := by decide +kernel
theorem dX2_removeChoice_89 : decode cX2_removeChoice 89 = .ok (.aload_n 0, 1) := by decide +kernel
theorem dX2_removeChoice_90 : decode cX2_removeChoice 90 = .ok (.getfield 39, 3) := by decide +kernel
theorem dX2_removeChoice_93 : decode cX2_removeChoice 93 = .ok (.iload 6, 2) := by decide +kernel
theorem dX2_removeChoice_95 : decode cX2_removeChoice 95 = .ok (.aload_n 0, 1) := by decide +kernel
theorem dX2_removeChoice_96 : decode cX2_removeChoice 96 = .ok (.getfield 39, 3) := by decide +kernel
theorem dX2_removeChoice_99 : decode cX2_removeChoice 99 = .ok (.iload 6, 2) := by decide +kernel
theorem dX2_removeChoice_101 : decode cX2_removeChoice 101 = .ok (.iconst 1, 1) := by decide +kernel
theorem dX2_removeChoice_102 : decode cX2_removeChoice 102 = .ok (.iadd, 1) := by decide +kernel
theorem dX2_removeChoice_103 : decode cX2_removeChoice 103 = .ok (.invokevirtual 62, 3) := by decide +kernel
theorem dX2_removeChoice_106 : decode cX2_removeChoice 106 = .ok (.invokevirtual 66, 3) := by decide +kernel
theorem dX2_removeChoice_109 : decode cX2_removeChoice 109 = .ok (.iinc 5 1, 3) := by decide +kernel
theorem dX2_removeChoice_112 : decode cX2_removeChoice 112 = .ok (.goto (-84), 3) := by decide +kernel
theorem dX2_removeChoice_115 : decode cX2_removeChoice 115 = .ok (.aload_n 0, 1) := by decide +kernel
theorem dX2_removeChoice_116 : decode cX2_removeChoice 116 = .ok (.getfield 30, 3) := by decide +kernel
theorem dX2_removeChoice_119 : decode cX2_removeChoice 119 = .ok (.iload_n 1, 1) := by decide +kernel
theorem dX2_removeChoice_120 : decode cX2_removeChoice 120 = .ok (.iload 4, 2) := by decide +kernel
theorem dX2_removeChoice_122 : decode cX2_removeChoice 122 = .ok (.invokevirtual 66, 3) := by decide +kernel
theorem dX2_removeChoice_125 : decode cX2_removeChoice 125 = .ok (.iload_n 3, 1) := by decide +kernel
theorem dX2_removeChoice_126 : decode cX2_removeChoice 126 = .ok (.ireturn, 1) := by decide +kernel
theorem dX2_swapPages_0 : decode cX2_swapPages 0 = .ok (.aload_n 0, 1) := by decide +kernel
theorem dX2_swapPages_1 : decode cX2_swapPages 1 = .ok (.getfield 20, 3) := by decide +kernel
theorem dX2_swapPages_4 : decode cX2_swapPages 4 = .ok (.iload_n 1, 1) := by decide +kernel
theorem dX2_swapPages_5 : decode cX2_swapPages 5 = .ok (.iload_n 2, 1) := by decide +kernel
theorem dX2_swapPages_6 : decode cX2_swapPages 6 = .ok (.invokevirtual 77, 3) := by decide +kernel
theorem dX2_swapPages_9 : decode cX2_swapPages 9 = .ok (.aload_n 0, 1) := by decide +kernel
theorem dX2_swapPages_10 : decode cX2_swapPages 10 = .ok (.getfield 24, 3) := by decide +kernel
theorem dX2_swapPages_13 : decode cX2_swapPages 13 = .ok (.iload_n 1, 1) := by decide +kernel
theorem dX2_swapPages_14 : decode cX2_swapPages 14 = .ok (.iload_n 2, 1) := by decide +kernel
theorem dX2_swapPages_15 : decode cX2_swapPages 15 = .ok (.invokevirtual 77, 3) := by decide +kernel
theorem dX2_swapPages_18 : decode cX2_swapPages 18 = .ok (.aload_n 0, 1) := by decide +kernel
theorem dX2_swapPages_19 : decode cX2_swapPages 19 = .ok (.getfield 27, 3) := by decide +kernel
theorem dX2_swapPages_22 : decode cX2_swapPages 22 = .ok (.iload_n 1, 1) := by decide +kernel
theorem dX2_swapPages_23 : decode cX2_swapPages 23 = .ok (.iload_n 2, 1) := by decide +kernel
theorem dX2_swapPages_24 : decode cX2_swapPages 24 = .ok (.invokevirtual 77, 3) := by decide +kernel
theorem dX2_swapPages_27 : decode cX2_swapPages 27 = .ok (.aload_n 0, 1) := by decide +kernel
theorem dX2_swapPages_28 : decode cX2_swapPages 28 = .ok (.getfield 30, 3) := by decide +kernel
theorem dX2_swapPages_31 : decode cX2_swapPages 31 = .ok (.iload_n 1, 1) := by decide +kernel
theorem dX2_swapPages_32 : decode cX2_swapPages 32 = .ok (.iload_n 2, 1) := by decide +kernel
theorem dX2_swapPages_33 : decode cX2_swapPages 33 = .ok (.invokevirtual 77, 3) := by decide +kernel
theorem dX2_swapPages_36 : decode cX2_swapPages 36 = .ok (.iconst 0, 1) := by decide +kernel
theorem dX2_swapPages_37 : decode cX2_swapPages 37 = .ok (.istore_n 3, 1) := by decide +kernel
theorem dX2_swapPages_38 : decode cX2_swapPages 38 = .ok (.iload_n 3, 1) := by decide +kernel
theorem dX2_swapPages_39 : decode cX2_swapPages 39 = .ok (.iconst 3, 1) := by decide +kernel
theorem dX2_swapPages_40 : decode cX2_swapPages 40 = .ok (.if_icmp .ge 56, 3) := by decide +kernel
theorem dX2_swapPages_43 : decode cX2_swapPages 43 = .ok (.iload_n 1, 1) := by decide +kernel
theorem dX2_swapPages_44 : decode cX2_swapPages 44 = .ok (.iload_n 3, 1) := by decide +kernel
theorem dX2_swapPages_45 : decode cX2_swapPages 45 = .ok (.invokestatic 73, 3) := by decide +kernel
theorem dX2_swapPages_48 : decode cX2_swapPages 48 = .ok (.istore 4, 2) := by decide +kernel
theorem dX2_swapPages_50 : decode cX2_swapPages 50 = .ok (.iload_n 2, 1) := by decide +kernel
theorem dX2_swapPages_51 : decode cX2_swapPages 51 = .ok (.iload_n 3, 1) := by decide +kernel
theorem dX2_swapPages_52 : decode cX2_swapPages 52 = .ok (.invokestatic 73, 3) := by decide +kernel
theorem dX2_swapPages_55 : decode cX2_swapPages 55 = .ok (.istore 5, 2) := by decide +kernel
theorem dX2_swapPages_57 : decode cX2_swapPages 57 = .ok (.aload_n 0, 1) := by decide +kernel
theorem dX2_swapPages_58 : decode cX2_swapPages 58 = .ok (.getfield 33, 3) := by decide +kernel
theorem dX2_swapPages_61 : decode cX2_swapPages 61 = .ok (.iload 4, 2) := by decide +kernel
theorem dX2_swapPages_63 : decode cX2_swapPages 63 = .ok (.iload 5, 2) := by decide +kernel
theorem dX2_swapPages_65 : decode cX2_swapPages 65 = .ok (.invokevirtual 77, 3) := by decide +kernel
theorem dX2_swapPages_68 : decode cX2_swapPages 68 = .ok (.aload_n 0, 1) := by decide +kernel
theorem dX2_swapPages_69 : decode cX2_swapPages 69 = .ok (.getfield 36, 3) := by decide +kernel
theorem dX2_swapPages_72 : decode cX2_swapPages 72 = .ok (.iload 4, 2) := by decide +kernel
theorem dX2_swapPages_74 : decode cX2_swapPages 74 = .ok (.iload 5, 2) := by decide +kernel
theorem dX2_swapPages_76 : decode cX2_swapPages 76 = .ok (.invokevirtual 77, 3) := by decide +kernel
theorem dX2_swapPages_79 : decode cX2_swapPages 79 = .ok (.aload_n 0, 1) := by decide +kernel
theorem dX2_swapPages_80 : decode cX2_swapPages 80 = .ok (.getfield 39, 3) := by decide +kernel
theorem dX2_swapPages_83 : decode cX2_swapPages 83 = .ok (.iload 4, 2) := by decide +kernel
theorem dX2_swapPages_85 : decode cX2_swapPages 85 = .ok (.iload 5, 2) := by decide +kernel
theorem dX2_swapPages_87 : decode cX2_swapPages 87 = .ok (.invokevirtual 77, 3) := by decide +kernel
theorem dX2_swapPages_90 : decode cX2_swapPages 90 = .ok (.iinc 3 1, 3) := by decide +kernel
theorem dX2_swapPages_93 : decode cX2_swapPages 93 = .ok (.goto (-55), 3) := by decide +kernel
theorem dX2_swapPages_96 : decode cX2_swapPages 96 = .ok (.iconst 0, 1) := by decide +kernel
theorem dX2_swapPages_97 : decode cX2_swapPages 97 = .ok (.istore_n 3, 1) := by decide +kernel
theorem dX2_swapPages_98 : decode cX2_swapPages 98 = .ok (.iload_n 3, 1) := by decide +kernel
theorem dX2_swapPages_99 : decode cX2_swapPages 99 = .ok (.bipush 96, 2) := by decide +kernel
theorem dX2_swapPages_101 : decode cX2_swapPages 101 = .ok (.if_icmp .ge 30, 3) := by decide +kernel
theorem dX2_swapPages_104 : decode cX2_swapPages 104 = .ok (.aload_n 0, 1) := by decide +kernel
theorem dX2_swapPages_105 : decode cX2_swapPages 105 = .ok (.getfield 33, 3) := by decide +kernel
theorem dX2_swapPages_108 : decode cX2_swapPages 108 = .ok (.iload_n 3, 1) := by decide +kernel
theorem dX2_swapPages_109 : decode cX2_swapPages 109 = .ok (.aload_n 0, 1) := by decide +kernel
theorem dX2_swapPages_110 : decode cX2_swapPages 110 = .ok (.getfield 33, 3) := by decide +kernel
theorem dX2_swapPages_113 : decode cX2_swapPages 113 = .ok (.iload_n 3, 1) := by decide +kernel
theorem dX2_swapPages_114 : decode cX2_swapPages 114 = .ok (.invokevirtual 62, 3) := by decide +kernel
theorem dX2_swapPages_117 : decode cX2_swapPages 117 = .ok (.iload_n 1, 1) := by decide +kernel
theorem dX2_swapPages_118 : decode cX2_swapPages 118 = .ok (.iload_n 2, 1) := by decide +kernel
theorem dX2_swapPages_119 : decode cX2_swapPages 119 = .ok (.invokestatic 80, 3) := by decide +kernel
theorem dX2_swapPages_122 : decode cX2_swapPages 122 = .ok (.invokevirtual 66, 3) := by decide +kernel
theorem dX2_swapPages_125 : decode cX2_swapPages 125 = .ok (.iinc 3 1, 3) := by decide +kernel
theorem dX2_swapPages_128 : decode cX2_swapPages 128 = .ok (.goto (-30), 3) := by decide +kernel
theorem dX2_swapPages_131 : decode cX2_swapPages 131 = .ok (.iconst 0, 1) := by decide +kernel
theorem dX2_swapPages_132 : decode cX2_swapPages 132 = .ok (.istore_n 3, 1) := by decide +kernel
theorem dX2_swapPages_133 : decode cX2_swapPages 133 = .ok (.iload_n 3, 1) := by decide +kernel
theorem dX2_swapPages_134 : decode cX2_swapPages 134 = .ok (.iconst 2, 1) := by decide +kernel
theorem dX2_swapPages_135 : decode cX2_swapPages 135 = .ok (.if_icmp .ge 30, 3) := by decide +kernel
theorem dX2_swapPages_138 : decode cX2_swapPages 138 = .ok (.aload_n 0, 1) := by decide +kernel
theorem dX2_swapPages_139 : decode cX2_swapPages 139 = .ok (.getfield 42, 3) := by decide +kernel
theorem dX2_swapPages_142 : decode cX2_swapPages 142 = .ok (.iload_n 3, 1) := by decide +kernel
theorem dX2_swapPages_143 : decode cX2_swapPages 143 = .ok (.aload_n 0, 1) := by decide +kernel
theorem dX2_swapPages_144 : decode cX2_swapPages 144 = .ok (.getfield 42, 3) := by decide +kernel
theorem dX2_swapPages_147 : decode cX2_swapPages 147 = .ok (.iload_n 3, 1) := by decide +kernel
theorem dX2_swapPages_148 : decode cX2_swapPages 148 = .ok (.invokevirtual 62, 3) := by decide +kernel
theorem dX2_swapPages_151 : decode cX2_swapPages 151 = .ok (.iload_n 1, 1) := by decide +kernel
theorem dX2_swapPages_152 : decode cX2_swapPages 152 = .ok (.iload_n 2, 1) := by decide +kernel
theorem dX2_swapPages_153 : decode cX2_swapPages 153 = .ok (.invokestatic 84, 3) := by decide +kernel
theorem dX2_swapPages_156 : decode cX2_swapPages 156 = .ok (.invokevirtual 66, 3) := by decide +kernel
theorem dX2_swapPages_159 : decode cX2_swapPages 159 = .ok (.iinc 3 1, 3) := by decide +kernel
theorem dX2_swapPages_162 : decode cX2_swapPages 162 = .ok (.goto (-29), 3) := by decide +kernel
theorem dX2_swapPages_165 : decode cX2_swapPages 165 = .ok (.aload_n 0, 1) := by decide +kernel
theorem dX2_swapPages_166 : decode cX2_swapPages 166 = .ok (.aload_n 0, 1) := by decide +kernel
theorem dX2_swapPages_167 : decode cX2_swapPages 167 = .ok (.getfield 51, 3) := by decide +kernel
theorem dX2_swapPages_170 : decode cX2_swapPages 170 = .ok (.iload_n 1, 1) := by decide +kernel
theorem dX2_swapPages_171 : decode cX2_swapPages 171 = .ok (.iload_n 2, 1) := by decide +kernel
theorem dX2_swapPages_172 : decode cX2_swapPages 172 = .ok (.invokestatic 84, 3) := by decide +kernel
theorem dX2_swapPages_175 : decode cX2_swapPages 175 = .ok (.putfield 51, 3) := by decide +kernel
theorem dX2_swapPages_178 : decode cX2_swapPages 178 = .ok (.return_, 1) := by decide +kernel
theorem dX2_renumbered_0 : decode cX2_renumbered 0 = .ok (.iload_n 0, 1) := by decide +kernel
theorem dX2_renumbered_1 : decode cX2_renumbered 1 = .ok (.iload_n 1, 1) := by decide +kernel
theorem dX2_renumbered_2 : decode cX2_renumbered 2 = .ok (.if_icmp .ne 5, 3) := by decide +kernel
theorem dX2_renumbered_5 : decode cX2_renumbered 5 = .ok (.iload_n 2, 1) := by decide +kernel
theorem dX2_renumbered_6 : decode cX2_renumbered 6 = .ok (.ireturn, 1) := by decide +kernel
theorem dX2_renumbered_7 : decode cX2_renumbered 7 = .ok (.iload_n 0, 1) := by decide +kernel
theorem dX2_renumbered_8 : decode cX2_renumbered 8 = .ok (.iload_n 2, 1) := by decide +kernel
theorem dX2_renumbered_9 : decode cX2_renumbered 9 = .ok (.if_icmp .ne 7, 3) := by decide +kernel
theorem dX2_renumbered_12 : decode cX2_renumbered 12 = .ok (.iload_n 1, 1) := by decide +kernel
theorem dX2_renumbered_13 : decode cX2_renumbered 13 = .ok (.goto 4, 3) := by decide +kernel
theorem dX2_renumbered_16 : decode cX2_renumbered 16 = .ok (.iload_n 0, 1) := by decide +kernel
theorem dX2_renumbered_17 : decode cX2_renumbered 17 = .ok (.ireturn, 1) := by decide +kernel
theorem dX2_moved_0 : decode cX2_moved 0 = .ok (.iload_n 0, 1) := by decide +kernel
theorem dX2_moved_1 : decode cX2_moved 1 = .ok (.iconst (-1), 1) := by decide +kernel
theorem dX2_moved_2 : decode cX2_moved 2 = .ok (.if_icmp .ne 5, 3) := by decide +kernel
theorem dX2_moved_5 : decode cX2_moved 5 = .ok (.iconst (-1), 1) := by decide +kernel
theorem dX2_moved_6 : decode cX2_moved 6 = .ok (.ireturn, 1) := by decide +kernel
theorem dX2_moved_7 : decode cX2_moved 7 = .ok (.iload_n 0, 1) := by decide +kernel
theorem dX2_moved_8 : decode cX2_moved 8 = .ok (.invokestatic 87, 3) := by decide +kernel
theorem dX2_moved_11 : decode cX2_moved 11 = .ok (.iload_n 1, 1) := by decide +kernel
theorem dX2_moved_12 : decode cX2_moved 12 = .ok (.iload_n 2, 1) := by decide +kernel
theorem dX2_moved_13 : decode cX2_moved 13 = .ok (.invokestatic 80, 3) := by decide +kernel
theorem dX2_moved_16 : decode cX2_moved 16 = .ok (.iload_n 0, 1) := by decide +kernel
theorem dX2_moved_17 : decode cX2_moved 17 = .ok (.invokestatic 90, 3) := by decide +kernel
theorem dX2_moved_20 : decode cX2_moved 20 = .ok (.invokestatic 93, 3) := by decide +kernel
theorem dX2_moved_23 : decode cX2_moved 23 = .ok (.ireturn, 1) := by decide +kernel
theorem dX2_allChoices_0 : decode cX2_allChoices 0 = .ok (.iconst 0, 1) := by decide +kernel
theorem dX2_allChoices_1 : decode cX2_allChoices 1 = .ok (.istore_n 1, 1) := by decide +kernel
theorem dX2_allChoices_2 : decode cX2_allChoices 2 = .ok (.iconst 0, 1) := by decide +kernel
theorem dX2_allChoices_3 : decode cX2_allChoices 3 = .ok (.istore_n 2, 1) := by decide +kernel
theorem dX2_allChoices_4 : decode cX2_allChoices 4 = .ok (.iload_n 2, 1) := by decide +kernel
theorem dX2_allChoices_5 : decode cX2_allChoices 5 = .ok (.aload_n 0, 1) := by decide +kernel
theorem dX2_allChoices_6 : decode cX2_allChoices 6 = .ok (.getfield 9, 3) := by decide +kernel
theorem dX2_allChoices_9 : decode cX2_allChoices 9 = .ok (.if_icmp .ge 20, 3) := by decide +kernel
theorem dX2_allChoices_12 : decode cX2_allChoices 12 = .ok (.iload_n 1, 1) := by decide +kernel
theorem dX2_allChoices_13 : decode cX2_allChoices 13 = .ok (.aload_n 0, 1) := by decide +kernel
theorem dX2_allChoices_14 : decode cX2_allChoices 14 = .ok (.getfield 30, 3) := by decide +kernel
theorem dX2_allChoices_17 : decode cX2_allChoices 17 = .ok (.iload_n 2, 1) := by decide +kernel
theorem dX2_allChoices_18 : decode cX2_allChoices 18 = .ok (.invokevirtual 62, 3) := by decide +kernel
theorem dX2_allChoices_21 : decode cX2_allChoices 21 = .ok (.iadd, 1) := by decide +kernel
theorem dX2_allChoices_22 : decode cX2_allChoices 22 = .ok (.istore_n 1, 1) := by decide +kernel
theorem dX2_allChoices_23 : decode cX2_allChoices 23 = .ok (.iinc 2 1, 3) := by decide +kernel
theorem dX2_allChoices_26 : decode cX2_allChoices 26 = .ok (.goto (-22), 3) := by decide +kernel
theorem dX2_allChoices_29 : decode cX2_allChoices 29 = .ok (.iload_n 1, 1) := by decide +kernel
theorem dX2_allChoices_30 : decode cX2_allChoices 30 = .ok (.ireturn, 1) := by decide +kernel
theorem dX2_choicesTo_0 : decode cX2_choicesTo 0 = .ok (.iconst 0, 1) := by decide +kernel
theorem dX2_choicesTo_1 : decode cX2_choicesTo 1 = .ok (.istore_n 2, 1) := by decide +kernel
theorem dX2_choicesTo_2 : decode cX2_choicesTo 2 = .ok (.iconst 0, 1) := by decide +kernel
theorem dX2_choicesTo_3 : decode cX2_choicesTo 3 = .ok (.istore_n 3, 1) := by decide +kernel
theorem dX2_choicesTo_4 : decode cX2_choicesTo 4 = .ok (.iload_n 3, 1) := by decide +kernel
theorem dX2_choicesTo_5 : decode cX2_choicesTo 5 = .ok (.aload_n 0, 1) := by decide +kernel
theorem dX2_choicesTo_6 : decode cX2_choicesTo 6 = .ok (.getfield 9, 3) := by decide +kernel
theorem dX2_choicesTo_9 : decode cX2_choicesTo 9 = .ok (.if_icmp .ge 65, 3) := by decide +kernel
theorem dX2_choicesTo_12 : decode cX2_choicesTo 12 = .ok (.iconst 0, 1) := by decide +kernel
theorem dX2_choicesTo_13 : decode cX2_choicesTo 13 = .ok (.istore 4, 2) := by decide +kernel
theorem dX2_choicesTo_15 : decode cX2_choicesTo 15 = .ok (.iload 4, 2) := by decide +kernel
theorem dX2_choicesTo_17 : decode cX2_choicesTo 17 = .ok (.aload_n 0, 1) := by decide +kernel
theorem dX2_choicesTo_18 : decode cX2_choicesTo 18 = .ok (.getfield 30, 3) := by decide +kernel
theorem dX2_choicesTo_21 : decode cX2_choicesTo 21 = .ok (.iload_n 3, 1) := by decide +kernel
theorem dX2_choicesTo_22 : decode cX2_choicesTo 22 = .ok (.invokevirtual 62, 3) := by decide +kernel
theorem dX2_choicesTo_25 : decode cX2_choicesTo 25 = .ok (.if_icmp .ge 43, 3) := by decide +kernel
theorem dX2_choicesTo_28 : decode cX2_choicesTo 28 = .ok (.iload 4, 2) := by decide +kernel
theorem dX2_choicesTo_30 : decode cX2_choicesTo 30 = .ok (.iconst 3, 1) := by decide +kernel
theorem dX2_choicesTo_31 : decode cX2_choicesTo 31 = .ok (.if_icmp .ge 37, 3) := by decide +kernel
theorem dX2_choicesTo_34 : decode cX2_choicesTo 34 = .ok (.iload_n 2, 1) := by decide +kernel
theorem dX2_choicesTo_35 : decode cX2_choicesTo 35 = .ok (.aload_n 0, 1) := by decide +kernel
theorem dX2_choicesTo_36 : decode cX2_choicesTo 36 = .ok (.getfield 33, 3) := by decide +kernel
theorem dX2_choicesTo_39 : decode cX2_choicesTo 39 = .ok (.iload_n 3, 1) := by decide +kernel
theorem dX2_choicesTo_40 : decode cX2_choicesTo 40 = .ok (.iload 4, 2) := by decide +kernel
theorem dX2_choicesTo_42 : decode cX2_choicesTo 42 = .ok (.invokestatic 73, 3) := by decide +kernel
theorem dX2_choicesTo_45 : decode cX2_choicesTo 45 = .ok (.invokevirtual 62, 3) := by decide +kernel
theorem dX2_choicesTo_48 : decode cX2_choicesTo 48 = .ok (.iload_n 1, 1) := by decide +kernel
theorem dX2_choicesTo_49 : decode cX2_choicesTo 49 = .ok (.if_icmp .ne 7, 3) := by decide +kernel
theorem dX2_choicesTo_52 : decode cX2_choicesTo 52 = .ok (.iconst 1, 1) := by decide +kernel
theorem dX2_choicesTo_53 : decode cX2_choicesTo 53 = .ok (.goto 4, 3) := by decide +kernel
theorem dX2_choicesTo_56 : decode cX2_choicesTo 56 = .ok (.iconst 0, 1) := by decide +kernel
theorem dX2_choicesTo_57 : decode cX2_choicesTo 57 = .ok (.invokestatic 96, 3) := by decide +kernel
theorem dX2_choicesTo_60 : decode cX2_choicesTo 60 = .ok (.iadd, 1) := by decide +kernel
theorem dX2_choicesTo_61 : decode cX2_choicesTo 61 = .ok (.istore_n 2, 1) := by decide +kernel
theorem dX2_choicesTo_62 : decode cX2_choicesTo 62 = .ok (.iinc 4 1, 3) := by decide +kernel
theorem dX2_choicesTo_65 : decode cX2_choicesTo 65 = .ok (.goto (-50), 3) := by decide +kernel
theorem dX2_choicesTo_68 : decode cX2_choicesTo 68 = .ok (.iinc 3 1, 3) := by decide +kernel
theorem dX2_choicesTo_71 : decode cX2_choicesTo 71 = .ok (.goto (-67), 3) := by decide +kernel
theorem dX2_choicesTo_74 : decode cX2_choicesTo 74 = .ok (.iload_n 2, 1) := by decide +kernel
theorem dX2_choicesTo_75 : decode cX2_choicesTo 75 = .ok (.ireturn, 1) := by decide +kernel
theorem dX2_moodOf_0 : decode cX2_moodOf 0 = .ok (.aload_n 0, 1) := by decide +kernel
theorem dX2_moodOf_1 : decode cX2_moodOf 1 = .ok (.getfield 20, 3) := by decide +kernel
theorem dX2_moodOf_4 : decode cX2_moodOf 4 = .ok (.iload_n 1, 1) := by decide +kernel
theorem dX2_moodOf_5 : decode cX2_moodOf 5 = .ok (.invokevirtual 62, 3) := by decide +kernel
theorem dX2_moodOf_8 : decode cX2_moodOf 8 = .ok (.i2f, 1) := by decide +kernel
theorem dX2_moodOf_9 : decode cX2_moodOf 9 = .ok (.ldc 100, 2) := by decide +kernel
theorem dX2_moodOf_11 : decode cX2_moodOf 11 = .ok (.fdiv, 1) := by decide +kernel
theorem dX2_moodOf_12 : decode cX2_moodOf 12 = .ok (.freturn, 1) := by decide +kernel
theorem dX2_kindOf_0 : decode cX2_kindOf 0 = .ok (.aload_n 0, 1) := by decide +kernel
theorem dX2_kindOf_1 : decode cX2_kindOf 1 = .ok (.getfield 30, 3) := by decide +kernel
theorem dX2_kindOf_4 : decode cX2_kindOf 4 = .ok (.iload_n 1, 1) := by decide +kernel
theorem dX2_kindOf_5 : decode cX2_kindOf 5 = .ok (.invokevirtual 62, 3) := by decide +kernel
theorem dX2_kindOf_8 : decode cX2_kindOf 8 = .ok (.ifCond .le 5, 3) := by decide +kernel
theorem dX2_kindOf_11 : decode cX2_kindOf 11 = .ok (.iconst 0, 1) := by decide +kernel
theorem dX2_kindOf_12 : decode cX2_kindOf 12 = .ok (.ireturn, 1) := by decide +kernel
theorem dX2_kindOf_13 : decode cX2_kindOf 13 = .ok (.aload_n 0, 1) := by decide +kernel
theorem dX2_kindOf_14 : decode cX2_kindOf 14 = .ok (.iload_n 1, 1) := by decide +kernel
theorem dX2_kindOf_15 : decode cX2_kindOf 15 = .ok (.invokevirtual 101, 3) := by decide +kernel
theorem dX2_kindOf_18 : decode cX2_kindOf 18 = .ok (.fconst 0, 1) := by decide +kernel
theorem dX2_kindOf_19 : decode cX2_kindOf 19 = .ok (.fcmp .l, 1) := by decide +kernel
theorem dX2_kindOf_20 : decode cX2_kindOf 20 = .ok (.ifCond .le 7, 3) := by decide +kernel
theorem dX2_kindOf_23 : decode cX2_kindOf 23 = .ok (.iconst 1, 1) := by decide +kernel
theorem dX2_kindOf_24 : decode cX2_kindOf 24 = .ok (.goto 4, 3) := by decide +kernel
theorem dX2_kindOf_27 : decode cX2_kindOf 27 = .ok (.iconst 2, 1) := by decide +kernel
theorem dX2_kindOf_28 : decode cX2_kindOf 28 = .ok (.ireturn, 1) := by decide +kernel
theorem dX2_placeComingTo_0 : decode cX2_placeComingTo 0 = .ok (.iload_n 1, 1) := by decide +kernel
theorem dX2_placeComingTo_1 : decode cX2_placeComingTo 1 = .ok (.iload_n 2, 1) := by decide +kernel
theorem dX2_placeComingTo_2 : decode cX2_placeComingTo 2 = .ok (.aload_n 0, 1) := by decide +kernel
theorem dX2_placeComingTo_3 : decode cX2_placeComingTo 3 = .ok (.getfield 27, 3) := by decide +kernel
theorem dX2_placeComingTo_6 : decode cX2_placeComingTo 6 = .ok (.iload_n 1, 1) := by decide +kernel
theorem dX2_placeComingTo_7 : decode cX2_placeComingTo 7 = .ok (.invokevirtual 62, 3) := by decide +kernel
theorem dX2_placeComingTo_10 : decode cX2_placeComingTo 10 = .ok (.iconst (-1), 1) := by decide +kernel
theorem dX2_placeComingTo_11 : decode cX2_placeComingTo 11 = .ok (.ixor, 1) := by decide +kernel
theorem dX2_placeComingTo_12 : decode cX2_placeComingTo 12 = .ok (.iand, 1) := by decide +kernel
theorem dX2_placeComingTo_13 : decode cX2_placeComingTo 13 = .ok (.aload_n 0, 1) := by decide +kernel
theorem dX2_placeComingTo_14 : decode cX2_placeComingTo 14 = .ok (.getfield 24, 3) := by decide +kernel
theorem dX2_placeComingTo_17 : decode cX2_placeComingTo 17 = .ok (.iload_n 1, 1) := by decide +kernel
theorem dX2_placeComingTo_18 : decode cX2_placeComingTo 18 = .ok (.invokevirtual 62, 3) := by decide +kernel
theorem dX2_placeComingTo_21 : decode cX2_placeComingTo 21 = .ok (.ior, 1) := by decide +kernel
theorem dX2_placeComingTo_22 : decode cX2_placeComingTo 22 = .ok (.invokestatic 93, 3) := by decide +kernel
theorem dX2_placeComingTo_25 : decode cX2_placeComingTo 25 = .ok (.ireturn, 1) := by decide +kernel
theorem dX2_firstPlace_0 : decode cX2_firstPlace 0 = .ok (.aload_n 0, 1) := by decide +kernel
theorem dX2_firstPlace_1 : decode cX2_firstPlace 1 = .ok (.iconst 0, 1) := by decide +kernel
theorem dX2_firstPlace_2 : decode cX2_firstPlace 2 = .ok (.iconst 0, 1) := by decide +kernel
theorem dX2_firstPlace_3 : decode cX2_firstPlace 3 = .ok (.invokevirtual 105, 3) := by decide +kernel
theorem dX2_firstPlace_6 : decode cX2_firstPlace 6 = .ok (.ireturn, 1) := by decide +kernel
theorem dX2_placeBehind_0 : decode cX2_placeBehind 0 = .ok (.aload_n 0, 1) := by decide +kernel
theorem dX2_placeBehind_1 : decode cX2_placeBehind 1 = .ok (.aload_n 0, 1) := by decide +kernel
theorem dX2_placeBehind_2 : decode cX2_placeBehind 2 = .ok (.getfield 33, 3) := by decide +kernel
theorem dX2_placeBehind_5 : decode cX2_placeBehind 5 = .ok (.iload_n 1, 1) := by decide +kernel
theorem dX2_placeBehind_6 : decode cX2_placeBehind 6 = .ok (.invokestatic 87, 3) := by decide +kernel
theorem dX2_placeBehind_9 : decode cX2_placeBehind 9 = .ok (.iload_n 2, 1) := by decide +kernel
theorem dX2_placeBehind_10 : decode cX2_placeBehind 10 = .ok (.invokestatic 73, 3) := by decide +kernel
theorem dX2_placeBehind_13 : decode cX2_placeBehind 13 = .ok (.invokevirtual 62, 3) := by decide +kernel
theorem dX2_placeBehind_16 : decode cX2_placeBehind 16 = .ok (.iload_n 1, 1) := by decide +kernel
theorem dX2_placeBehind_17 : decode cX2_placeBehind 17 = .ok (.invokestatic 90, 3) := by decide +kernel
theorem dX2_placeBehind_20 : decode cX2_placeBehind 20 = .ok (.invokevirtual 105, 3) := by decide +kernel
theorem dX2_placeBehind_23 : decode cX2_placeBehind 23 = .ok (.ireturn, 1) := by decide +kernel
theorem dX2_reasonAt_0 : decode cX2_reasonAt 0 = .ok (.iload_n 1, 1) := by decide +kernel
theorem dX2_reasonAt_1 : decode cX2_reasonAt 1 = .ok (.invokestatic 87, 3) := by decide +kernel
theorem dX2_reasonAt_4 : decode cX2_reasonAt 4 = .ok (.istore_n 3, 1) := by decide +kernel
theorem dX2_reasonAt_5 : decode cX2_reasonAt 5 = .ok (.iload_n 1, 1) := by decide +kernel
theorem dX2_reasonAt_6 : decode cX2_reasonAt 6 = .ok (.invokestatic 90, 3) := by decide +kernel
theorem dX2_reasonAt_9 : decode cX2_reasonAt 9 = .ok (.istore 4, 2) := by decide +kernel
theorem dX2_reasonAt_11 : decode cX2_reasonAt 11 = .ok (.iload_n 2, 1) := by decide +kernel
theorem dX2_reasonAt_12 : decode cX2_reasonAt 12 = .ok (.ifCond .lt 15, 3) := by decide +kernel
theorem dX2_reasonAt_15 : decode cX2_reasonAt 15 = .ok (.iload_n 2, 1) := by decide +kernel
theorem dX2_reasonAt_16 : decode cX2_reasonAt 16 = .ok (.aload_n 0, 1) := by decide +kernel
theorem dX2_reasonAt_17 : decode cX2_reasonAt 17 = .ok (.getfield 30, 3) := by decide +kernel
theorem dX2_reasonAt_20 : decode cX2_reasonAt 20 = .ok (.iload_n 3, 1) := by decide +kernel
theorem dX2_reasonAt_21 : decode cX2_reasonAt 21 = .ok (.invokevirtual 62, 3) := by decide +kernel
theorem dX2_reasonAt_24 : decode cX2_reasonAt 24 = .ok (.if_icmp .lt 5, 3) := by decide +kernel
theorem dX2_reasonAt_27 : decode cX2_reasonAt 27 = .ok (.iconst 2, 1) := by decide +kernel
theorem dX2_reasonAt_28 : decode cX2_reasonAt 28 = .ok (.ireturn, 1) := by decide +kernel
theorem dX2_reasonAt_29 : decode cX2_reasonAt 29 = .ok (.iload_n 3, 1) := by decide +kernel
theorem dX2_reasonAt_30 : decode cX2_reasonAt 30 = .ok (.iload_n 2, 1) := by decide +kernel
theorem dX2_reasonAt_31 : decode cX2_reasonAt 31 = .ok (.invokestatic 73, 3) := by decide +kernel
theorem dX2_reasonAt_34 : decode cX2_reasonAt 34 = .ok (.istore 5, 2) := by decide +kernel
theorem dX2_reasonAt_36 : decode cX2_reasonAt 36 = .ok (.aload_n 0, 1) := by decide +kernel
theorem dX2_reasonAt_37 : decode cX2_reasonAt 37 = .ok (.getfield 36, 3) := by decide +kernel
theorem dX2_reasonAt_40 : decode cX2_reasonAt 40 = .ok (.iload 5, 2) := by decide +kernel
theorem dX2_reasonAt_42 : decode cX2_reasonAt 42 = .ok (.invokevirtual 62, 3) := by decide +kernel
theorem dX2_reasonAt_45 : decode cX2_reasonAt 45 = .ok (.iload 4, 2) := by decide +kernel
theorem dX2_reasonAt_47 : decode cX2_reasonAt 47 = .ok (.iconst (-1), 1) := by decide +kernel
theorem dX2_reasonAt_48 : decode cX2_reasonAt 48 = .ok (.ixor, 1) := by decide +kernel
theorem dX2_reasonAt_49 : decode cX2_reasonAt 49 = .ok (.iand, 1) := by decide +kernel
theorem dX2_reasonAt_50 : decode cX2_reasonAt 50 = .ok (.ifCond .eq 5, 3) := by decide +kernel
theorem dX2_reasonAt_53 : decode cX2_reasonAt 53 = .ok (.iconst 3, 1) := by decide +kernel
theorem dX2_reasonAt_54 : decode cX2_reasonAt 54 = .ok (.ireturn, 1) := by decide +kernel
theorem dX2_reasonAt_55 : decode cX2_reasonAt 55 = .ok (.aload_n 0, 1) := by decide +kernel
theorem dX2_reasonAt_56 : decode cX2_reasonAt 56 = .ok (.getfield 39, 3) := by decide +kernel
theorem dX2_reasonAt_59 : decode cX2_reasonAt 59 = .ok (.iload 5, 2) := by decide +kernel
theorem dX2_reasonAt_61 : decode cX2_reasonAt 61 = .ok (.invokevirtual 62, 3) := by decide +kernel
theorem dX2_reasonAt_64 : decode cX2_reasonAt 64 = .ok (.iload 4, 2) := by decide +kernel
theorem dX2_reasonAt_66 : decode cX2_reasonAt 66 = .ok (.iand, 1) := by decide +kernel
theorem dX2_reasonAt_67 : decode cX2_reasonAt 67 = .ok (.ifCond .eq 7, 3) := by decide +kernel
theorem dX2_reasonAt_70 : decode cX2_reasonAt 70 = .ok (.iconst 4, 1) := by decide +kernel
theorem dX2_reasonAt_71 : decode cX2_reasonAt 71 = .ok (.goto 4, 3) := by decide +kernel
theorem dX2_reasonAt_74 : decode cX2_reasonAt 74 = .ok (.iconst 0, 1) := by decide +kernel
theorem dX2_reasonAt_75 : decode cX2_reasonAt 75 = .ok (.ireturn, 1) := by decide +kernel
theorem dX2_reasonAgainst_0 : decode cX2_reasonAgainst 0 = .ok (.aload_n 0, 1) := by decide +kernel
theorem dX2_reasonAgainst_1 : decode cX2_reasonAgainst 1 = .ok (.getfield 42, 3) := by decide +kernel
theorem dX2_reasonAgainst_4 : decode cX2_reasonAgainst 4 = .ok (.iload_n 1, 1) := by decide +kernel
theorem dX2_reasonAgainst_5 : decode cX2_reasonAgainst 5 = .ok (.invokevirtual 62, 3) := by decide +kernel
theorem dX2_reasonAgainst_8 : decode cX2_reasonAgainst 8 = .ok (.istore_n 3, 1) := by decide +kernel
theorem dX2_reasonAgainst_9 : decode cX2_reasonAgainst 9 = .ok (.iload_n 3, 1) := by decide +kernel
theorem dX2_reasonAgainst_10 : decode cX2_reasonAgainst 10 = .ok (.iconst (-1), 1) := by decide +kernel
theorem dX2_reasonAgainst_11 : decode cX2_reasonAgainst 11 = .ok (.if_icmp .ne 7, 3) := by decide +kernel
theorem dX2_reasonAgainst_14 : decode cX2_reasonAgainst 14 = .ok (.iconst 1, 1) := by decide +kernel
theorem dX2_reasonAgainst_15 : decode cX2_reasonAgainst 15 = .ok (.goto 9, 3) := by decide +kernel
theorem dX2_reasonAgainst_18 : decode cX2_reasonAgainst 18 = .ok (.aload_n 0, 1) := by decide +kernel
theorem dX2_reasonAgainst_19 : decode cX2_reasonAgainst 19 = .ok (.iload_n 3, 1) := by decide +kernel
theorem dX2_reasonAgainst_20 : decode cX2_reasonAgainst 20 = .ok (.iload_n 2, 1) := by decide +kernel
theorem dX2_reasonAgainst_21 : decode cX2_reasonAgainst 21 = .ok (.invokevirtual 108, 3) := by decide +kernel
theorem dX2_reasonAgainst_24 : decode cX2_reasonAgainst 24 = .ok (.ireturn, 1) := by decide +kernel
theorem dX2_openChoices_0 : decode cX2_openChoices 0 = .ok (.iconst 0, 1) := by decide +kernel
theorem dX2_openChoices_1 : decode cX2_openChoices 1 = .ok (.istore_n 2, 1) := by decide +kernel
theorem dX2_openChoices_2 : decode cX2_openChoices 2 = .ok (.iconst 0, 1) := by decide +kernel
theorem dX2_openChoices_3 : decode cX2_openChoices 3 = .ok (.istore_n 3, 1) := by decide +kernel
theorem dX2_openChoices_4 : decode cX2_openChoices 4 = .ok (.iload_n 3, 1) := by decide +kernel
theorem dX2_openChoices_5 : decode cX2_openChoices 5 = .ok (.iconst 3, 1) := by decide +kernel
theorem dX2_openChoices_6 : decode cX2_openChoices 6 = .ok (.if_icmp .ge 24, 3) := by decide +kernel
theorem dX2_openChoices_9 : decode cX2_openChoices 9 = .ok (.aload_n 0, 1) := by decide +kernel
theorem dX2_openChoices_10 : decode cX2_openChoices 10 = .ok (.iload_n 1, 1) := by decide +kernel
theorem dX2_openChoices_11 : decode cX2_openChoices 11 = .ok (.iload_n 3, 1) := by decide +kernel
theorem dX2_openChoices_12 : decode cX2_openChoices 12 = .ok (.invokevirtual 108, 3) := by decide +kernel
theorem dX2_openChoices_15 : decode cX2_openChoices 15 = .ok (.ifCond .ne 9, 3) := by decide +kernel
theorem dX2_openChoices_18 : decode cX2_openChoices 18 = .ok (.iload_n 2, 1) := by decide +kernel
theorem dX2_openChoices_19 : decode cX2_openChoices 19 = .ok (.iconst 1, 1) := by decide +kernel
theorem dX2_openChoices_20 : decode cX2_openChoices 20 = .ok (.iload_n 3, 1) := by decide +kernel
theorem dX2_openChoices_21 : decode cX2_openChoices 21 = .ok (.ishl, 1) := by decide +kernel
theorem dX2_openChoices_22 : decode cX2_openChoices 22 = .ok (.ior, 1) := by decide +kernel
theorem dX2_openChoices_23 : decode cX2_openChoices 23 = .ok (.istore_n 2, 1) := by decide +kernel
theorem dX2_openChoices_24 : decode cX2_openChoices 24 = .ok (.iinc 3 1, 3) := by decide +kernel
theorem dX2_openChoices_27 : decode cX2_openChoices 27 = .ok (.goto (-23), 3) := by decide +kernel
theorem dX2_openChoices_30 : decode cX2_openChoices 30 = .ok (.iload_n 2, 1) := by decide +kernel
theorem dX2_openChoices_31 : decode cX2_openChoices 31 = .ok (.ireturn, 1) := by decide +kernel
theorem dX2_putReader_0 : decode cX2_putReader 0 = .ok (.aload_n 0, 1) := by decide +kernel
theorem dX2_putReader_1 : decode cX2_putReader 1 = .ok (.getfield 42, 3) := by decide +kernel
theorem dX2_putReader_4 : decode cX2_putReader 4 = .ok (.iload_n 1, 1) := by decide +kernel
theorem dX2_putReader_5 : decode cX2_putReader 5 = .ok (.iload_n 2, 1) := by decide +kernel
theorem dX2_putReader_6 : decode cX2_putReader 6 = .ok (.invokevirtual 66, 3) := by decide +kernel
theorem dX2_putReader_9 : decode cX2_putReader 9 = .ok (.aload_n 0, 1) := by decide +kernel
theorem dX2_putReader_10 : decode cX2_putReader 10 = .ok (.getfield 48, 3) := by decide +kernel
theorem dX2_putReader_13 : decode cX2_putReader 13 = .ok (.iload_n 1, 1) := by decide +kernel
theorem dX2_putReader_14 : decode cX2_putReader 14 = .ok (.iload_n 3, 1) := by decide +kernel
theorem dX2_putReader_15 : decode cX2_putReader 15 = .ok (.invokevirtual 66, 3) := by decide +kernel
theorem dX2_putReader_18 : decode cX2_putReader 18 = .ok (.return_, 1) := by decide +kernel
theorem dX3_init_0 : decode cX3_init 0 = .ok (.aload_n 0, 1) := by decide +kernel
theorem dX3_init_1 : decode cX3_init 1 = .ok (.invokespecial 3, 3) := by decide +kernel
theorem dX3_init_4 : decode cX3_init 4 = .ok (.aload_n 0, 1) := by decide +kernel
theorem dX3_init_5 : decode cX3_init 5 = .ok (.iconst 0, 1) := by decide +kernel
theorem dX3_init_6 : decode cX3_init 6 = .ok (.putfield 9, 3) := by decide +kernel
theorem dX3_init_9 : decode cX3_init 9 = .ok (.aload_n 0, 1) := by decide +kernel
theorem dX3_init_10 : decode cX3_init 10 = .ok (.iconst 0, 1) := by decide +kernel
theorem dX3_init_11 : decode cX3_init 11 = .ok (.putfield 15, 3) := by decide +kernel
theorem dX3_init_14 : decode cX3_init 14 = .ok (.aload_n 0, 1) := by decide +kernel
theorem dX3_init_15 : decode cX3_init 15 = .ok (.iconst 0, 1) := by decide +kernel
theorem dX3_init_16 : decode cX3_init 16 = .ok (.putfield 19, 3) := by decide +kernel
theorem dX3_init_19 : decode cX3_init 19 = .ok (.aload_n 0, 1) := by decide +kernel
theorem dX3_init_20 : decode cX3_init 20 = .ok (.new 22, 3) := by decide +kernel
theorem dX3_init_23 : decode cX3_init 23 = .ok (.dup, 1) := by decide +kernel
theorem dX3_init_24 : decode cX3_init 24 = .ok (.sipush 1024, 3) := by decide +kernel
theorem dX3_init_27 : decode cX3_init 27 = .ok (.invokespecial 24, 3) := by decide +kernel
theorem dX3_init_30 : decode cX3_init 30 = .ok (.putfield 27, 3) := by decide +kernel
theorem dX3_init_33 : decode cX3_init 33 = .ok (.aload_n 0, 1) := by decide +kernel
theorem dX3_init_34 : decode cX3_init 34 = .ok (.new 22, 3) := by decide +kernel
theorem dX3_init_37 : decode cX3_init 37 = .ok (.dup, 1) := by decide +kernel
theorem dX3_init_38 : decode cX3_init 38 = .ok (.sipush 1024, 3) := by decide +kernel
theorem dX3_init_41 : decode cX3_init 41 = .ok (.invokespecial 24, 3) := by decide +kernel
theorem dX3_init_44 : decode cX3_init 44 = .ok (.putfield 31, 3) := by decide +kernel
theorem dX3_init_47 : decode cX3_init 47 = .ok (.aload_n 0, 1) := by decide +kernel
theorem dX3_init_48 : decode cX3_init 48 = .ok (.new 22, 3) := by decide +kernel
theorem dX3_init_51 : decode cX3_init 51 = .ok (.dup, 1) := by decide +kernel
theorem dX3_init_52 : decode cX3_init 52 = .ok (.sipush 1024, 3) := by decide +kernel
theorem dX3_init_55 : decode cX3_init 55 = .ok (.invokespecial 24, 3) := by decide +kernel
theorem dX3_init_58 : decode cX3_init 58 = .ok (.putfield 34, 3) := by decide +kernel
theorem dX3_init_61 : decode cX3_init 61 = .ok (.aload_n 0, 1) := by decide +kernel
theorem dX3_init_62 : decode cX3_init 62 = .ok (.new 22, 3) := by decide +kernel
theorem dX3_init_65 : decode cX3_init 65 = .ok (.dup, 1) := by decide +kernel
theorem dX3_init_66 : decode cX3_init 66 = .ok (.sipush 1024, 3) := by decide +kernel
theorem dX3_init_69 : decode cX3_init 69 = .ok (.invokespecial 24, 3) := by decide +kernel
theorem dX3_init_72 : decode cX3_init 72 = .ok (.putfield 37, 3) := by decide +kernel
theorem dX3_init_75 : decode cX3_init 75 = .ok (.aload_n 0, 1) := by decide +kernel
theorem dX3_init_76 : decode cX3_init 76 = .ok (.new 22, 3) := by decide +kernel
theorem dX3_init_79 : decode cX3_init 79 = .ok (.dup, 1) := by decide +kernel
theorem dX3_init_80 : decode cX3_init 80 = .ok (.sipush 1024, 3) := by decide +kernel
theorem dX3_init_83 : decode cX3_init 83 = .ok (.invokespecial 24, 3) := by decide +kernel
theorem dX3_init_86 : decode cX3_init 86 = .ok (.putfield 40, 3) := by decide +kernel
theorem dX3_init_89 : decode cX3_init 89 = .ok (.aload_n 0, 1) := by decide +kernel
theorem dX3_init_90 : decode cX3_init 90 = .ok (.iconst 0, 1) := by decide +kernel
theorem dX3_init_91 : decode cX3_init 91 = .ok (.putfield 43, 3) := by decide +kernel
theorem dX3_init_94 : decode cX3_init 94 = .ok (.aload_n 0, 1) := by decide +kernel
theorem dX3_init_95 : decode cX3_init 95 = .ok (.iconst 0, 1) := by decide +kernel
theorem dX3_init_96 : decode cX3_init 96 = .ok (.putfield 46, 3) := by decide +kernel
theorem dX3_init_99 : decode cX3_init 99 = .ok (.aload_n 0, 1) := by decide +kernel
theorem dX3_init_100 : decode cX3_init 100 = .ok (.iconst (-1), 1) := by decide +kernel
theorem dX3_init_101 : decode cX3_init 101 = .ok (.putfield 49, 3) := by decide +kernel
theorem dX3_init_104 : decode cX3_init 104 = .ok (.aload_n 0, 1) := by decide +kernel
theorem dX3_init_105 : decode cX3_init 105 = .ok (.new 22, 3) := by decide +kernel
theorem dX3_init_108 : decode cX3_init 108 = .ok (.dup, 1) := by decide +kernel
theorem dX3_init_109 : decode cX3_init 109 = .ok (.sipush 1024, 3) := by decide +kernel
theorem dX3_init_112 : decode cX3_init 112 = .ok (.invokespecial 24, 3) := by decide +kernel
theorem dX3_init_115 : decode cX3_init 115 = .ok (.putfield 52, 3) := by decide +kernel
theorem dX3_init_118 : decode cX3_init 118 = .ok (.return_, 1) := by decide +kernel
theorem dX3_make_0 : decode cX3_make 0 = .ok (.aload_n 0, 1) := by decide +kernel
theorem dX3_make_1 : decode cX3_make 1 = .ok (.aload_n 1, 1) := by decide +kernel
theorem dX3_make_2 : decode cX3_make 2 = .ok (.getfield 55, 3) := by decide +kernel
theorem dX3_make_5 : decode cX3_make 5 = .ok (.putfield 15, 3) := by decide +kernel
theorem dX3_make_8 : decode cX3_make 8 = .ok (.aload_n 0, 1) := by decide +kernel
theorem dX3_make_9 : decode cX3_make 9 = .ok (.aload_n 1, 1) := by decide +kernel
theorem dX3_make_10 : decode cX3_make 10 = .ok (.invokevirtual 58, 3) := by decide +kernel
theorem dX3_make_13 : decode cX3_make 13 = .ok (.aload_n 0, 1) := by decide +kernel
theorem dX3_make_14 : decode cX3_make 14 = .ok (.aload_n 1, 1) := by decide +kernel
theorem dX3_make_15 : decode cX3_make 15 = .ok (.invokevirtual 62, 3) := by decide +kernel
theorem dX3_make_18 : decode cX3_make 18 = .ok (.aload_n 0, 1) := by decide +kernel
theorem dX3_make_19 : decode cX3_make 19 = .ok (.aload_n 1, 1) := by decide +kernel
theorem dX3_make_20 : decode cX3_make 20 = .ok (.invokevirtual 65, 3) := by decide +kernel
theorem dX3_make_23 : decode cX3_make 23 = .ok (.aload_n 0, 1) := by decide +kernel
theorem dX3_make_24 : decode cX3_make 24 = .ok (.invokevirtual 68, 3) := by decide +kernel
theorem dX3_make_27 : decode cX3_make 27 = .ok (.aload_n 0, 1) := by decide +kernel
theorem dX3_make_28 : decode cX3_make 28 = .ok (.iconst 1, 1) := by decide +kernel
theorem dX3_make_29 : decode cX3_make 29 = .ok (.putfield 9, 3) := by decide +kernel
theorem dX3_make_32 : decode cX3_make 32 = .ok (.return_, 1) := by decide +kernel
theorem dX3_findPlaces_0 : decode cX3_findPlaces 0 = .ok (.aload_n 0, 1) := by decide +kernel
theorem dX3_findPlaces_1 : decode cX3_findPlaces 1 = .ok (.iconst 0, 1) := by decide +kernel
theorem dX3_findPlaces_2 : decode cX3_findPlaces 2 = .ok (.putfield 19, 3) := by decide +kernel
theorem dX3_findPlaces_5 : decode cX3_findPlaces 5 = .ok (.aload_n 0, 1) := by decide +kernel
theorem dX3_findPlaces_6 : decode cX3_findPlaces 6 = .ok (.getfield 31, 3) := by decide +kernel
theorem dX3_findPlaces_9 : decode cX3_findPlaces 9 = .ok (.iconst (-1), 1) := by decide +kernel
theorem dX3_findPlaces_10 : decode cX3_findPlaces 10 = .ok (.invokevirtual 71, 3) := by decide +kernel
theorem dX3_findPlaces_13 : decode cX3_findPlaces 13 = .ok (.aload_n 1, 1) := by decide +kernel
theorem dX3_findPlaces_14 : decode cX3_findPlaces 14 = .ok (.getfield 55, 3) := by decide +kernel
theorem dX3_findPlaces_17 : decode cX3_findPlaces 17 = .ok (.ifCond .ne 4, 3) := by decide +kernel
theorem dX3_findPlaces_20 : decode cX3_findPlaces 20 = .ok (.return_, 1) := by decide +kernel
theorem dX3_findPlaces_21 : decode cX3_findPlaces 21 = .ok (.aload_n 0, 1) := by decide +kernel
theorem dX3_findPlaces_22 : decode cX3_findPlaces 22 = .ok (.aload_n 1, 1) := by decide +kernel
theorem dX3_findPlaces_23 : decode cX3_findPlaces 23 = .ok (.invokevirtual 74, 3) := by decide +kernel
theorem dX3_findPlaces_26 : decode cX3_findPlaces 26 = .ok (.iconst 0, 1) := by decide +kernel
theorem dX3_findPlaces_27 : decode cX3_findPlaces 27 = .ok (.iconst (-1), 1) := by decide +kernel
theorem dX3_findPlaces_28 : decode cX3_findPlaces 28 = .ok (.iconst (-1), 1) := by decide +kernel
theorem dX3_findPlaces_29 : decode cX3_findPlaces 29 = .ok (.invokevirtual 78, 3) := by decide +kernel
theorem dX3_findPlaces_32 : decode cX3_findPlaces 32 = .ok (.iconst 0, 1) := by decide +kernel
theorem dX3_findPlaces_33 : decode cX3_findPlaces 33 = .ok (.istore_n 2, 1) := by decide +kernel
theorem dX3_findPlaces_34 : decode cX3_findPlaces 34 = .ok (.iload_n 2, 1) := by decide +kernel
theorem dX3_findPlaces_35 : decode cX3_findPlaces 35 = .ok (.aload_n 0, 1) := by decide +kernel
theorem dX3_findPlaces_36 : decode cX3_findPlaces 36 = .ok (.getfield 19, 3) := by decide +kernel
theorem dX3_findPlaces_39 : decode cX3_findPlaces 39 = .ok (.if_icmp .ge 85, 3) := by decide +kernel
theorem dX3_findPlaces_42 : decode cX3_findPlaces 42 = .ok (.iload_n 2, 1) := by decide +kernel
theorem dX3_findPlaces_43 : decode cX3_findPlaces 43 = .ok (.sipush 1024, 3) := by decide +kernel
theorem dX3_findPlaces_46 : decode cX3_findPlaces 46 = .ok (.if_icmp .ge 78, 3) := by decide +kernel
theorem dX3_findPlaces_49 : decode cX3_findPlaces 49 = .ok (.aload_n 0, 1) := by decide +kernel
theorem dX3_findPlaces_50 : decode cX3_findPlaces 50 = .ok (.getfield 27, 3) := by decide +kernel
theorem dX3_findPlaces_53 : decode cX3_findPlaces 53 = .ok (.iload_n 2, 1) := by decide +kernel
theorem dX3_findPlaces_54 : decode cX3_findPlaces 54 = .ok (.invokevirtual 82, 3) := by decide +kernel
theorem dX3_findPlaces_57 : decode cX3_findPlaces 57 = .ok (.istore_n 3, 1) := by decide +kernel
theorem dX3_findPlaces_58 : decode cX3_findPlaces 58 = .ok (.aload_n 1, 1) := by decide +kernel
theorem dX3_findPlaces_59 : decode cX3_findPlaces 59 = .ok (.iload_n 3, 1) := by decide +kernel
theorem dX3_findPlaces_60 : decode cX3_findPlaces 60 = .ok (.invokevirtual 86, 3) := by decide +kernel
theorem dX3_findPlaces_63 : decode cX3_findPlaces 63 = .ok (.istore 4, 2) := by decide +kernel
theorem dX3_findPlaces_65 : decode cX3_findPlaces 65 = .ok (.iconst 0, 1) := by decide +kernel
theorem dX3_findPlaces_66 : decode cX3_findPlaces 66 = .ok (.istore 5, 2) := by decide +kernel
theorem dX3_findPlaces_68 : decode cX3_findPlaces 68 = .ok (.iload 5, 2) := by decide +kernel
theorem dX3_findPlaces_70 : decode cX3_findPlaces 70 = .ok (.iconst 3, 1) := by decide +kernel
theorem dX3_findPlaces_71 : decode cX3_findPlaces 71 = .ok (.if_icmp .ge 47, 3) := by decide +kernel
theorem dX3_findPlaces_74 : decode cX3_findPlaces 74 = .ok (.iload 5, 2) := by decide +kernel
theorem dX3_findPlaces_76 : decode cX3_findPlaces 76 = .ok (.iload 4, 2) := by decide +kernel
theorem dX3_findPlaces_78 : decode cX3_findPlaces 78 = .ok (.invokestatic 89, 3) := by decide +kernel
theorem dX3_findPlaces_81 : decode cX3_findPlaces 81 = .ok (.ifCond .eq 31, 3) := by decide +kernel
theorem dX3_findPlaces_84 : decode cX3_findPlaces 84 = .ok (.aload_n 1, 1) := by decide +kernel
theorem dX3_findPlaces_85 : decode cX3_findPlaces 85 = .ok (.iload_n 3, 1) := by decide +kernel
theorem dX3_findPlaces_86 : decode cX3_findPlaces 86 = .ok (.iload 5, 2) := by decide +kernel
theorem dX3_findPlaces_88 : decode cX3_findPlaces 88 = .ok (.invokevirtual 93, 3) := by decide +kernel
theorem dX3_findPlaces_91 : decode cX3_findPlaces 91 = .ok (.istore 6, 2) := by decide +kernel
theorem dX3_findPlaces_93 : decode cX3_findPlaces 93 = .ok (.aload_n 0, 1) := by decide +kernel
theorem dX3_findPlaces_94 : decode cX3_findPlaces 94 = .ok (.iload 6, 2) := by decide +kernel
theorem dX3_findPlaces_96 : decode cX3_findPlaces 96 = .ok (.aload_n 0, 1) := by decide +kernel
theorem dX3_findPlaces_97 : decode cX3_findPlaces 97 = .ok (.getfield 31, 3) := by decide +kernel
theorem dX3_findPlaces_100 : decode cX3_findPlaces 100 = .ok (.iload_n 3, 1) := by decide +kernel
theorem dX3_findPlaces_101 : decode cX3_findPlaces 101 = .ok (.invokevirtual 82, 3) := by decide +kernel
theorem dX3_findPlaces_104 : decode cX3_findPlaces 104 = .ok (.iconst 1, 1) := by decide +kernel
theorem dX3_findPlaces_105 : decode cX3_findPlaces 105 = .ok (.iadd, 1) := by decide +kernel
theorem dX3_findPlaces_106 : decode cX3_findPlaces 106 = .ok (.iload_n 3, 1) := by decide +kernel
theorem dX3_findPlaces_107 : decode cX3_findPlaces 107 = .ok (.iload 5, 2) := by decide +kernel
theorem dX3_findPlaces_109 : decode cX3_findPlaces 109 = .ok (.invokevirtual 78, 3) := by decide +kernel
theorem dX3_findPlaces_112 : decode cX3_findPlaces 112 = .ok (.iinc 5 1, 3) := by decide +kernel
theorem dX3_findPlaces_115 : decode cX3_findPlaces 115 = .ok (.goto (-47), 3) := by decide +kernel
theorem dX3_findPlaces_118 : decode cX3_findPlaces 118 = .ok (.iinc 2 1, 3) := by decide +kernel
theorem dX3_findPlaces_121 : decode cX3_findPlaces 121 = .ok (.goto (-87), 3) := by decide +kernel
theorem dX3_findPlaces_124 : decode cX3_findPlaces 124 = .ok (.return_, 1) := by decide +kernel
theorem dX3_addPlace_0 : decode cX3_addPlace 0 = .ok (.aload_n 0, 1) := by decide +kernel
theorem dX3_addPlace_1 : decode cX3_addPlace 1 = .ok (.iload_n 1, 1) := by decide +kernel
theorem dX3_addPlace_2 : decode cX3_addPlace 2 = .ok (.invokevirtual 97, 3) := by decide +kernel
theorem dX3_addPlace_5 : decode cX3_addPlace 5 = .ok (.ifCond .ne 13, 3) := by decide +kernel
theorem dX3_addPlace_8 : decode cX3_addPlace 8 = .ok (.aload_n 0, 1) := by decide +kernel
theorem dX3_addPlace_9 : decode cX3_addPlace 9 = .ok (.getfield 19, 3) := by decide +kernel
theorem dX3_addPlace_12 : decode cX3_addPlace 12 = .ok (.sipush 1024, 3) := by decide +kernel
theorem dX3_addPlace_15 : decode cX3_addPlace 15 = .ok (.if_icmp .lt 4, 3) := by decide +kernel
theorem dX3_addPlace_18 : decode cX3_addPlace 18 = .ok (.return_, 1) := by decide +kernel
theorem dX3_addPlace_19 : decode cX3_addPlace 19 = .ok (.aload_n 0, 1) := by decide +kernel
theorem dX3_addPlace_20 : decode cX3_addPlace 20 = .ok (.getfield 27, 3) := by decide +kernel
theorem dX3_addPlace_23 : decode cX3_addPlace 23 = .ok (.aload_n 0, 1) := by decide +kernel
theorem dX3_addPlace_24 : decode cX3_addPlace 24 = .ok (.getfield 19, 3) := by decide +kernel
theorem dX3_addPlace_27 : decode cX3_addPlace 27 = .ok (.iload_n 1, 1) := by decide +kernel
theorem dX3_addPlace_28 : decode cX3_addPlace 28 = .ok (.invokevirtual 101, 3) := by decide +kernel
theorem dX3_addPlace_31 : decode cX3_addPlace 31 = .ok (.aload_n 0, 1) := by decide +kernel
theorem dX3_addPlace_32 : decode cX3_addPlace 32 = .ok (.aload_n 0, 1) := by decide +kernel
theorem dX3_addPlace_33 : decode cX3_addPlace 33 = .ok (.getfield 19, 3) := by decide +kernel
theorem dX3_addPlace_36 : decode cX3_addPlace 36 = .ok (.iconst 1, 1) := by decide +kernel
theorem dX3_addPlace_37 : decode cX3_addPlace 37 = .ok (.iadd, 1) := by decide +kernel
theorem dX3_addPlace_38 : decode cX3_addPlace 38 = .ok (.putfield 19, 3) := by decide +kernel
theorem dX3_addPlace_41 : decode cX3_addPlace 41 = .ok (.aload_n 0, 1) := by decide +kernel
theorem dX3_addPlace_42 : decode cX3_addPlace 42 = .ok (.getfield 31, 3) := by decide +kernel
theorem dX3_addPlace_45 : decode cX3_addPlace 45 = .ok (.iload_n 1, 1) := by decide +kernel
theorem dX3_addPlace_46 : decode cX3_addPlace 46 = .ok (.iload_n 2, 1) := by decide +kernel
theorem dX3_addPlace_47 : decode cX3_addPlace 47 = .ok (.invokevirtual 101, 3) := by decide +kernel
theorem dX3_addPlace_50 : decode cX3_addPlace 50 = .ok (.aload_n 0, 1) := by decide +kernel
theorem dX3_addPlace_51 : decode cX3_addPlace 51 = .ok (.getfield 34, 3) := by decide +kernel
theorem dX3_addPlace_54 : decode cX3_addPlace 54 = .ok (.iload_n 1, 1) := by decide +kernel
theorem dX3_addPlace_55 : decode cX3_addPlace 55 = .ok (.iload_n 3, 1) := by decide +kernel
theorem dX3_addPlace_56 : decode cX3_addPlace 56 = .ok (.invokevirtual 101, 3) := by decide +kernel
theorem dX3_addPlace_59 : decode cX3_addPlace 59 = .ok (.aload_n 0, 1) := by decide +kernel
theorem dX3_addPlace_60 : decode cX3_addPlace 60 = .ok (.getfield 37, 3) := by decide +kernel
theorem dX3_addPlace_63 : decode cX3_addPlace 63 = .ok (.iload_n 1, 1) := by decide +kernel
theorem dX3_addPlace_64 : decode cX3_addPlace 64 = .ok (.iload 4, 2) := by decide +kernel
theorem dX3_addPlace_66 : decode cX3_addPlace 66 = .ok (.invokevirtual 101, 3) := by decide +kernel
theorem dX3_addPlace_69 : decode cX3_addPlace 69 = .ok (.aload_n 0, 1) := by decide +kernel
theorem dX3_addPlace_70 : decode cX3_addPlace 70 = .ok (.getfield 40, 3) := by decide +kernel
theorem dX3_addPlace_73 : decode cX3_addPlace 73 = .ok (.iload_n 1, 1) := by decide +kernel
theorem dX3_addPlace_74 : decode cX3_addPlace 74 = .ok (.iconst 0, 1) := by decide +kernel
theorem dX3_addPlace_75 : decode cX3_addPlace 75 = .ok (.invokevirtual 101, 3) := by decide +kernel
theorem dX3_addPlace_78 : decode cX3_addPlace 78 = .ok (.return_, 1) := by decide +kernel
theorem dX3_findAhead_0 : decode cX3_findAhead 0 = .ok (.iconst 1, 1) := by decide +kernel
theorem dX3_findAhead_1 : decode cX3_findAhead 1 = .ok (.istore_n 2, 1) := by decide +kernel
theorem dX3_findAhead_2 : decode cX3_findAhead 2 = .ok (.iconst 0, 1) := by decide +kernel
theorem dX3_findAhead_3 : decode cX3_findAhead 3 = .ok (.istore_n 3, 1) := by decide +kernel
theorem dX3_findAhead_4 : decode cX3_findAhead 4 = .ok (.iload_n 2, 1) := by decide +kernel
theorem dX3_findAhead_5 : decode cX3_findAhead 5 = .ok (.ifCond .eq 22, 3) := by decide +kernel
theorem dX3_findAhead_8 : decode cX3_findAhead 8 = .ok (.iload_n 3, 1) := by decide +kernel
theorem dX3_findAhead_9 : decode cX3_findAhead 9 = .ok (.sipush 1024, 3) := by decide +kernel
theorem dX3_findAhead_12 : decode cX3_findAhead 12 = .ok (.if_icmp .gt 15, 3) := by decide +kernel
theorem dX3_findAhead_15 : decode cX3_findAhead 15 = .ok (.aload_n 0, 1) := by decide +kernel
theorem dX3_findAhead_16 : decode cX3_findAhead 16 = .ok (.aload_n 1, 1) := by decide +kernel
theorem dX3_findAhead_17 : decode cX3_findAhead 17 = .ok (.invokevirtual 105, 3) := by decide +kernel
theorem dX3_findAhead_20 : decode cX3_findAhead 20 = .ok (.istore_n 2, 1) := by decide +kernel
theorem dX3_findAhead_21 : decode cX3_findAhead 21 = .ok (.iinc 3 1, 3) := by decide +kernel
theorem dX3_findAhead_24 : decode cX3_findAhead 24 = .ok (.goto (-20), 3) := by decide +kernel
theorem dX3_findAhead_27 : decode cX3_findAhead 27 = .ok (.return_, 1) := by decide +kernel
theorem dX3_growAhead_0 : decode cX3_growAhead 0 = .ok (.iconst 0, 1) := by decide +kernel
theorem dX3_growAhead_1 : decode cX3_growAhead 1 = .ok (.istore_n 2, 1) := by decide +kernel
theorem dX3_growAhead_2 : decode cX3_growAhead 2 = .ok (.aload_n 0, 1) := by decide +kernel
theorem dX3_growAhead_3 : decode cX3_growAhead 3 = .ok (.getfield 19, 3) := by decide +kernel
theorem dX3_growAhead_6 : decode cX3_growAhead 6 = .ok (.iconst 1, 1) := by decide +kernel
theorem dX3_growAhead_7 : decode cX3_growAhead 7 = .ok (.isub, 1) := by decide +kernel
theorem dX3_growAhead_8 : decode cX3_growAhead 8 = .ok (.istore_n 3, 1) := by decide +kernel
theorem dX3_growAhead_9 : decode cX3_growAhead 9 = .ok (.iload_n 3, 1) := by decide +kernel
theorem dX3_growAhead_10 : decode cX3_growAhead 10 = .ok (.ifCond .lt 130, 3) := by decide +kernel
theorem dX3_growAhead_13 : decode cX3_growAhead 13 = .ok (.aload_n 0, 1) := by decide +kernel
theorem dX3_growAhead_14 : decode cX3_growAhead 14 = .ok (.getfield 27, 3) := by decide +kernel
theorem dX3_growAhead_17 : decode cX3_growAhead 17 = .ok (.iload_n 3, 1) := by decide +kernel
theorem dX3_growAhead_18 : decode cX3_growAhead 18 = .ok (.invokevirtual 82, 3) := by decide +kernel
theorem dX3_growAhead_21 : decode cX3_growAhead 21 = .ok (.istore 4, 2) := by decide +kernel
theorem dX3_growAhead_23 : decode cX3_growAhead 23 = .ok (.aload_n 1, 1) := by decide +kernel
theorem dX3_growAhead_24 : decode cX3_growAhead 24 = .ok (.iload 4, 2) := by decide +kernel
theorem dX3_growAhead_26 : decode cX3_growAhead 26 = .ok (.invokevirtual 86, 3) := by decide +kernel
theorem dX3_growAhead_29 : decode cX3_growAhead 29 = .ok (.istore 5, 2) := by decide +kernel
theorem dX3_growAhead_31 : decode cX3_growAhead 31 = .ok (.aload_n 0, 1) := by decide +kernel
theorem dX3_growAhead_32 : decode cX3_growAhead 32 = .ok (.getfield 40, 3) := by decide +kernel
theorem dX3_growAhead_35 : decode cX3_growAhead 35 = .ok (.iload 4, 2) := by decide +kernel
theorem dX3_growAhead_37 : decode cX3_growAhead 37 = .ok (.invokevirtual 82, 3) := by decide +kernel
theorem dX3_growAhead_40 : decode cX3_growAhead 40 = .ok (.istore 6, 2) := by decide +kernel
theorem dX3_growAhead_42 : decode cX3_growAhead 42 = .ok (.iconst 0, 1) := by decide +kernel
theorem dX3_growAhead_43 : decode cX3_growAhead 43 = .ok (.istore 7, 2) := by decide +kernel
theorem dX3_growAhead_45 : decode cX3_growAhead 45 = .ok (.iload 7, 2) := by decide +kernel
theorem dX3_growAhead_47 : decode cX3_growAhead 47 = .ok (.iconst 3, 1) := by decide +kernel
theorem dX3_growAhead_48 : decode cX3_growAhead 48 = .ok (.if_icmp .ge 51, 3) := by decide +kernel
theorem dX3_growAhead_51 : decode cX3_growAhead 51 = .ok (.iload 7, 2) := by decide +kernel
theorem dX3_growAhead_53 : decode cX3_growAhead 53 = .ok (.iload 5, 2) := by decide +kernel
theorem dX3_growAhead_55 : decode cX3_growAhead 55 = .ok (.invokestatic 89, 3) := by decide +kernel
theorem dX3_growAhead_58 : decode cX3_growAhead 58 = .ok (.ifCond .eq 35, 3) := by decide +kernel
theorem dX3_growAhead_61 : decode cX3_growAhead 61 = .ok (.aload_n 1, 1) := by decide +kernel
theorem dX3_growAhead_62 : decode cX3_growAhead 62 = .ok (.iload 4, 2) := by decide +kernel
theorem dX3_growAhead_64 : decode cX3_growAhead 64 = .ok (.iload 7, 2) := by decide +kernel
theorem dX3_growAhead_66 : decode cX3_growAhead 66 = .ok (.invokevirtual 93, 3) := by decide +kernel
theorem dX3_growAhead_69 : decode cX3_growAhead 69 = .ok (.istore 8, 2) := by decide +kernel
theorem dX3_growAhead_71 : decode cX3_growAhead 71 = .ok (.iload 6, 2) := by decide +kernel
theorem dX3_growAhead_73 : decode cX3_growAhead 73 = .ok (.iconst 1, 1) := by decide +kernel
theorem dX3_growAhead_74 : decode cX3_growAhead 74 = .ok (.iload 8, 2) := by decide +kernel
theorem dX3_growAhead_76 : decode cX3_growAhead 76 = .ok (.invokestatic 109, 3) := by decide +kernel
theorem dX3_growAhead_79 : decode cX3_growAhead 79 = .ok (.ishl, 1) := by decide +kernel
theorem dX3_growAhead_80 : decode cX3_growAhead 80 = .ok (.ior, 1) := by decide +kernel
theorem dX3_growAhead_81 : decode cX3_growAhead 81 = .ok (.aload_n 0, 1) := by decide +kernel
theorem dX3_growAhead_82 : decode cX3_growAhead 82 = .ok (.getfield 40, 3) := by decide +kernel
theorem dX3_growAhead_85 : decode cX3_growAhead 85 = .ok (.iload 8, 2) := by decide +kernel
theorem dX3_growAhead_87 : decode cX3_growAhead 87 = .ok (.invokevirtual 82, 3) := by decide +kernel
theorem dX3_growAhead_90 : decode cX3_growAhead 90 = .ok (.ior, 1) := by decide +kernel
theorem dX3_growAhead_91 : decode cX3_growAhead 91 = .ok (.istore 6, 2) := by decide +kernel
theorem dX3_growAhead_93 : decode cX3_growAhead 93 = .ok (.iinc 7 1, 3) := by decide +kernel
theorem dX3_growAhead_96 : decode cX3_growAhead 96 = .ok (.goto (-51), 3) := by decide +kernel
theorem dX3_growAhead_99 : decode cX3_growAhead 99 = .ok (.iload_n 2, 1) := by decide +kernel
theorem dX3_growAhead_100 : decode cX3_growAhead 100 = .ok (.ifCond .ne 17, 3) := by decide +kernel
theorem dX3_growAhead_103 : decode cX3_growAhead 103 = .ok (.iload 6, 2) := by decide +kernel
theorem dX3_growAhead_105 : decode cX3_growAhead 105 = .ok (.aload_n 0, 1) := by decide +kernel
theorem dX3_growAhead_106 : decode cX3_growAhead 106 = .ok (.getfield 40, 3) := by decide +kernel
theorem dX3_growAhead_109 : decode cX3_growAhead 109 = .ok (.iload 4, 2) := by decide +kernel
theorem dX3_growAhead_111 : decode cX3_growAhead 111 = .ok (.invokevirtual 82, 3) := by decide +kernel
theorem dX3_growAhead_114 : decode cX3_growAhead 114 = .ok (.if_icmp .eq 7, 3) := by decide +kernel
theorem dX3_growAhead_117 : decode cX3_growAhead 117 = .ok (.iconst 1, 1) := by decide +kernel
theorem dX3_growAhead_118 : decode cX3_growAhead 118 = .ok (.goto 4, 3) := by decide +kernel
theorem dX3_growAhead_121 : decode cX3_growAhead 121 = .ok (.iconst 0, 1) := by decide +kernel
theorem dX3_growAhead_122 : decode cX3_growAhead 122 = .ok (.istore_n 2, 1) := by decide +kernel
theorem dX3_growAhead_123 : decode cX3_growAhead 123 = .ok (.aload_n 0, 1) := by decide +kernel
theorem dX3_growAhead_124 : decode cX3_growAhead 124 = .ok (.getfield 40, 3) := by decide +kernel
theorem dX3_growAhead_127 : decode cX3_growAhead 127 = .ok (.iload 4, 2) := by decide +kernel
theorem dX3_growAhead_129 : decode cX3_growAhead 129 = .ok (.iload 6, 2) := by decide +kernel
theorem dX3_growAhead_131 : decode cX3_growAhead 131 = .ok (.invokevirtual 101, 3) := by decide +kernel
theorem dX3_growAhead_134 : decode cX3_growAhead 134 = .ok (.iinc 3 (-1), 3) := by decide +kernel
theorem dX3_growAhead_137 : decode cX3_growAhead 137 = .ok (.goto (-128), 3) := by decide +kernel
theorem dX3_growAhead_140 : decode cX3_growAhead 140 = .ok (.iload_n 2, 1) := by decide +kernel
theorem dX3_growAhead_141 : decode cX3_growAhead 141 = .ok (.ireturn, 1) := by decide +kernel
theorem dX3_findEnds_0 : decode cX3_findEnds 0 = .ok (.aload_n 0, 1) := by decide +kernel
theorem dX3_findEnds_1 : decode cX3_findEnds 1 = .ok (.iconst 0, 1) := by decide +kernel
theorem dX3_findEnds_2 : decode cX3_findEnds 2 = .ok (.putfield 43, 3) := by decide +kernel
theorem dX3_findEnds_5 : decode cX3_findEnds 5 = .ok (.aload_n 0, 1) := by decide +kernel
theorem dX3_findEnds_6 : decode cX3_findEnds 6 = .ok (.iconst 0, 1) := by decide +kernel
theorem dX3_findEnds_7 : decode cX3_findEnds 7 = .ok (.putfield 46, 3) := by decide +kernel
theorem dX3_findEnds_10 : decode cX3_findEnds 10 = .ok (.iconst 0, 1) := by decide +kernel
theorem dX3_findEnds_11 : decode cX3_findEnds 11 = .ok (.istore_n 2, 1) := by decide +kernel
theorem dX3_findEnds_12 : decode cX3_findEnds 12 = .ok (.iload_n 2, 1) := by decide +kernel
theorem dX3_findEnds_13 : decode cX3_findEnds 13 = .ok (.aload_n 0, 1) := by decide +kernel
theorem dX3_findEnds_14 : decode cX3_findEnds 14 = .ok (.getfield 15, 3) := by decide +kernel
theorem dX3_findEnds_17 : decode cX3_findEnds 17 = .ok (.if_icmp .ge 62, 3) := by decide +kernel
theorem dX3_findEnds_20 : decode cX3_findEnds 20 = .ok (.aload_n 1, 1) := by decide +kernel
theorem dX3_findEnds_21 : decode cX3_findEnds 21 = .ok (.iload_n 2, 1) := by decide +kernel
theorem dX3_findEnds_22 : decode cX3_findEnds 22 = .ok (.invokevirtual 112, 3) := by decide +kernel
theorem dX3_findEnds_25 : decode cX3_findEnds 25 = .ok (.istore_n 3, 1) := by decide +kernel
theorem dX3_findEnds_26 : decode cX3_findEnds 26 = .ok (.aload_n 0, 1) := by decide +kernel
theorem dX3_findEnds_27 : decode cX3_findEnds 27 = .ok (.aload_n 0, 1) := by decide +kernel
theorem dX3_findEnds_28 : decode cX3_findEnds 28 = .ok (.getfield 43, 3) := by decide +kernel
theorem dX3_findEnds_31 : decode cX3_findEnds 31 = .ok (.iload_n 3, 1) := by decide +kernel
theorem dX3_findEnds_32 : decode cX3_findEnds 32 = .ok (.ifCond .eq 7, 3) := by decide +kernel
theorem dX3_findEnds_35 : decode cX3_findEnds 35 = .ok (.iconst 1, 1) := by decide +kernel
theorem dX3_findEnds_36 : decode cX3_findEnds 36 = .ok (.goto 4, 3) := by decide +kernel
theorem dX3_findEnds_39 : decode cX3_findEnds 39 = .ok (.iconst 0, 1) := by decide +kernel
theorem dX3_findEnds_40 : decode cX3_findEnds 40 = .ok (.invokestatic 115, 3) := by decide +kernel
theorem dX3_findEnds_43 : decode cX3_findEnds 43 = .ok (.iload_n 2, 1) := by decide +kernel
theorem dX3_findEnds_44 : decode cX3_findEnds 44 = .ok (.ishl, 1) := by decide +kernel
theorem dX3_findEnds_45 : decode cX3_findEnds 45 = .ok (.ior, 1) := by decide +kernel
theorem dX3_findEnds_46 : decode cX3_findEnds 46 = .ok (.putfield 43, 3) := by decide +kernel
theorem dX3_findEnds_49 : decode cX3_findEnds 49 = .ok (.aload_n 0, 1) := by decide +kernel
theorem dX3_findEnds_50 : decode cX3_findEnds 50 = .ok (.aload_n 0, 1) := by decide +kernel
theorem dX3_findEnds_51 : decode cX3_findEnds 51 = .ok (.getfield 46, 3) := by decide +kernel
theorem dX3_findEnds_54 : decode cX3_findEnds 54 = .ok (.iload_n 3, 1) := by decide +kernel
theorem dX3_findEnds_55 : decode cX3_findEnds 55 = .ok (.iconst 1, 1) := by decide +kernel
theorem dX3_findEnds_56 : decode cX3_findEnds 56 = .ok (.if_icmp .ne 7, 3) := by decide +kernel
theorem dX3_findEnds_59 : decode cX3_findEnds 59 = .ok (.iconst 1, 1) := by decide +kernel
theorem dX3_findEnds_60 : decode cX3_findEnds 60 = .ok (.goto 4, 3) := by decide +kernel
theorem dX3_findEnds_63 : decode cX3_findEnds 63 = .ok (.iconst 0, 1) := by decide +kernel
theorem dX3_findEnds_64 : decode cX3_findEnds 64 = .ok (.invokestatic 115, 3) := by decide +kernel
theorem dX3_findEnds_67 : decode cX3_findEnds 67 = .ok (.iload_n 2, 1) := by decide +kernel
theorem dX3_findEnds_68 : decode cX3_findEnds 68 = .ok (.ishl, 1) := by decide +kernel
theorem dX3_findEnds_69 : decode cX3_findEnds 69 = .ok (.ior, 1) := by decide +kernel
theorem dX3_findEnds_70 : decode cX3_findEnds 70 = .ok (.putfield 46, 3) := by decide +kernel
theorem dX3_findEnds_73 : decode cX3_findEnds 73 = .ok (.iinc 2 1, 3) := by decide +kernel
theorem dX3_findEnds_76 : decode cX3_findEnds 76 = .ok (.goto (-64), 3) := by decide +kernel
theorem dX3_findEnds_79 : decode cX3_findEnds 79 = .ok (.return_, 1) := by decide +kernel
theorem dX3_findWay_0 : decode cX3_findWay 0 = .ok (.aload_n 0, 1) := by decide +kernel
theorem dX3_findWay_1 : decode cX3_findWay 1 = .ok (.iconst (-1), 1) := by decide +kernel
theorem dX3_findWay_2 : decode cX3_findWay 2 = .ok (.putfield 49, 3) := by decide +kernel
theorem dX3_findWay_5 : decode cX3_findWay 5 = .ok (.iconst 0, 1) := by decide +kernel
theorem dX3_findWay_6 : decode cX3_findWay 6 = .ok (.istore_n 1, 1) := by decide +kernel
theorem dX3_findWay_7 : decode cX3_findWay 7 = .ok (.iload_n 1, 1) := by decide +kernel
theorem dX3_findWay_8 : decode cX3_findWay 8 = .ok (.aload_n 0, 1) := by decide +kernel
theorem dX3_findWay_9 : decode cX3_findWay 9 = .ok (.getfield 19, 3) := by decide +kernel
theorem dX3_findWay_12 : decode cX3_findWay 12 = .ok (.if_icmp .ge 50, 3) := by decide +kernel
theorem dX3_findWay_15 : decode cX3_findWay 15 = .ok (.aload_n 0, 1) := by decide +kernel
theorem dX3_findWay_16 : decode cX3_findWay 16 = .ok (.getfield 49, 3) := by decide +kernel
theorem dX3_findWay_19 : decode cX3_findWay 19 = .ok (.iconst (-1), 1) := by decide +kernel
theorem dX3_findWay_20 : decode cX3_findWay 20 = .ok (.if_icmp .ne 42, 3) := by decide +kernel
theorem dX3_findWay_23 : decode cX3_findWay 23 = .ok (.aload_n 0, 1) := by decide +kernel
theorem dX3_findWay_24 : decode cX3_findWay 24 = .ok (.getfield 27, 3) := by decide +kernel
theorem dX3_findWay_27 : decode cX3_findWay 27 = .ok (.iload_n 1, 1) := by decide +kernel
theorem dX3_findWay_28 : decode cX3_findWay 28 = .ok (.invokevirtual 82, 3) := by decide +kernel
theorem dX3_findWay_31 : decode cX3_findWay 31 = .ok (.invokestatic 109, 3) := by decide +kernel
theorem dX3_findWay_34 : decode cX3_findWay 34 = .ok (.aload_n 0, 1) := by decide +kernel
theorem dX3_findWay_35 : decode cX3_findWay 35 = .ok (.getfield 46, 3) := by decide +kernel
theorem dX3_findWay_38 : decode cX3_findWay 38 = .ok (.invokestatic 89, 3) := by decide +kernel
theorem dX3_findWay_41 : decode cX3_findWay 41 = .ok (.ifCond .eq 15, 3) := by decide +kernel
theorem dX3_findWay_44 : decode cX3_findWay 44 = .ok (.aload_n 0, 1) := by decide +kernel
theorem dX3_findWay_45 : decode cX3_findWay 45 = .ok (.aload_n 0, 1) := by decide +kernel
theorem dX3_findWay_46 : decode cX3_findWay 46 = .ok (.getfield 27, 3) := by decide +kernel
theorem dX3_findWay_49 : decode cX3_findWay 49 = .ok (.iload_n 1, 1) := by decide +kernel
theorem dX3_findWay_50 : decode cX3_findWay 50 = .ok (.invokevirtual 82, 3) := by decide +kernel
theorem dX3_findWay_53 : decode cX3_findWay 53 = .ok (.invokevirtual 119, 3) := by decide +kernel
theorem dX3_findWay_56 : decode cX3_findWay 56 = .ok (.iinc 1 1, 3) := by decide +kernel
theorem dX3_findWay_59 : decode cX3_findWay 59 = .ok (.goto (-52), 3) := by decide +kernel
theorem dX3_findWay_62 : decode cX3_findWay 62 = .ok (.return_, 1) := by decide +kernel
theorem dX3_layWay_0 : decode cX3_layWay 0 = .ok (.aload_n 0, 1) := by decide +kernel
theorem dX3_layWay_1 : decode cX3_layWay 1 = .ok (.aload_n 0, 1) := by decide +kernel
theorem dX3_layWay_2 : decode cX3_layWay 2 = .ok (.getfield 31, 3) := by decide +kernel
theorem dX3_layWay_5 : decode cX3_layWay 5 = .ok (.iload_n 1, 1) := by decide +kernel
theorem dX3_layWay_6 : decode cX3_layWay 6 = .ok (.invokevirtual 82, 3) := by decide +kernel
theorem dX3_layWay_9 : decode cX3_layWay 9 = .ok (.putfield 49, 3) := by decide +kernel
theorem dX3_layWay_12 : decode cX3_layWay 12 = .ok (.iload_n 1, 1) := by decide +kernel
theorem dX3_layWay_13 : decode cX3_layWay 13 = .ok (.istore_n 2, 1) := by decide +kernel
theorem dX3_layWay_14 : decode cX3_layWay 14 = .ok (.aload_n 0, 1) := by decide +kernel
theorem dX3_layWay_15 : decode cX3_layWay 15 = .ok (.getfield 49, 3) := by decide +kernel
theorem dX3_layWay_18 : decode cX3_layWay 18 = .ok (.istore_n 3, 1) := by decide +kernel
theorem dX3_layWay_19 : decode cX3_layWay 19 = .ok (.iload_n 3, 1) := by decide +kernel
theorem dX3_layWay_20 : decode cX3_layWay 20 = .ok (.ifCond .lt 27, 3) := by decide +kernel
theorem dX3_layWay_23 : decode cX3_layWay 23 = .ok (.aload_n 0, 1) := by decide +kernel
theorem dX3_layWay_24 : decode cX3_layWay 24 = .ok (.getfield 52, 3) := by decide +kernel
theorem dX3_layWay_27 : decode cX3_layWay 27 = .ok (.iload_n 3, 1) := by decide +kernel
theorem dX3_layWay_28 : decode cX3_layWay 28 = .ok (.iload_n 2, 1) := by decide +kernel
theorem dX3_layWay_29 : decode cX3_layWay 29 = .ok (.invokevirtual 101, 3) := by decide +kernel
theorem dX3_layWay_32 : decode cX3_layWay 32 = .ok (.aload_n 0, 1) := by decide +kernel
theorem dX3_layWay_33 : decode cX3_layWay 33 = .ok (.getfield 34, 3) := by decide +kernel
theorem dX3_layWay_36 : decode cX3_layWay 36 = .ok (.iload_n 2, 1) := by decide +kernel
theorem dX3_layWay_37 : decode cX3_layWay 37 = .ok (.invokevirtual 82, 3) := by decide +kernel
theorem dX3_layWay_40 : decode cX3_layWay 40 = .ok (.istore_n 2, 1) := by decide +kernel
theorem dX3_layWay_41 : decode cX3_layWay 41 = .ok (.iinc 3 (-1), 3) := by decide +kernel
theorem dX3_layWay_44 : decode cX3_layWay 44 = .ok (.goto (-25), 3) := by decide +kernel
theorem dX3_layWay_47 : decode cX3_layWay 47 = .ok (.return_, 1) := by decide +kernel
theorem dX3_choiceOnWay_0 : decode cX3_choiceOnWay 0 = .ok (.iload_n 1, 1) := by decide +kernel
theorem dX3_choiceOnWay_1 : decode cX3_choiceOnWay 1 = .ok (.aload_n 0, 1) := by decide +kernel
theorem dX3_choiceOnWay_2 : decode cX3_choiceOnWay 2 = .ok (.getfield 49, 3) := by decide +kernel
theorem dX3_choiceOnWay_5 : decode cX3_choiceOnWay 5 = .ok (.if_icmp .ge 23, 3) := by decide +kernel
theorem dX3_choiceOnWay_8 : decode cX3_choiceOnWay 8 = .ok (.aload_n 0, 1) := by decide +kernel
theorem dX3_choiceOnWay_9 : decode cX3_choiceOnWay 9 = .ok (.getfield 37, 3) := by decide +kernel
theorem dX3_choiceOnWay_12 : decode cX3_choiceOnWay 12 = .ok (.aload_n 0, 1) := by decide +kernel
theorem dX3_choiceOnWay_13 : decode cX3_choiceOnWay 13 = .ok (.getfield 52, 3) := by decide +kernel
theorem dX3_choiceOnWay_16 : decode cX3_choiceOnWay 16 = .ok (.iload_n 1, 1) := by decide +kernel
theorem dX3_choiceOnWay_17 : decode cX3_choiceOnWay 17 = .ok (.iconst 1, 1) := by decide +kernel
theorem dX3_choiceOnWay_18 : decode cX3_choiceOnWay 18 = .ok (.iadd, 1) := by decide +kernel
theorem dX3_choiceOnWay_19 : decode cX3_choiceOnWay 19 = .ok (.invokevirtual 82, 3) := by decide +kernel
theorem dX3_choiceOnWay_22 : decode cX3_choiceOnWay 22 = .ok (.invokevirtual 82, 3) := by decide +kernel
theorem dX3_choiceOnWay_25 : decode cX3_choiceOnWay 25 = .ok (.goto 5, 3) := by decide +kernel
theorem dX3_choiceOnWay_28 : decode cX3_choiceOnWay 28 = .ok (.bipush (-5), 2) := by decide +kernel
theorem dX3_choiceOnWay_30 : decode cX3_choiceOnWay 30 = .ok (.ireturn, 1) := by decide +kernel
theorem dX3_isIn_0 : decode cX3_isIn 0 = .ok (.iload_n 1, 1) := by decide +kernel
theorem dX3_isIn_1 : decode cX3_isIn 1 = .ok (.iload_n 0, 1) := by decide +kernel
theorem dX3_isIn_2 : decode cX3_isIn 2 = .ok (.iushr, 1) := by decide +kernel
theorem dX3_isIn_3 : decode cX3_isIn 3 = .ok (.iconst 1, 1) := by decide +kernel
theorem dX3_isIn_4 : decode cX3_isIn 4 = .ok (.iand, 1) := by decide +kernel
theorem dX3_isIn_5 : decode cX3_isIn 5 = .ok (.iconst 1, 1) := by decide +kernel
theorem dX3_isIn_6 : decode cX3_isIn 6 = .ok (.if_icmp .ne 7, 3) := by decide +kernel
theorem dX3_isIn_9 : decode cX3_isIn 9 = .ok (.iconst 1, 1) := by decide +kernel
theorem dX3_isIn_10 : decode cX3_isIn 10 = .ok (.goto 4, 3) := by decide +kernel
theorem dX3_isIn_13 : decode cX3_isIn 13 = .ok (.iconst 0, 1) := by decide +kernel
theorem dX3_isIn_14 : decode cX3_isIn 14 = .ok (.ireturn, 1) := by decide +kernel
theorem dX3_isReached_0 : decode cX3_isReached 0 = .ok (.aload_n 0, 1) := by decide +kernel
theorem dX3_isReached_1 : decode cX3_isReached 1 = .ok (.getfield 31, 3) := by decide +kernel
theorem dX3_isReached_4 : decode cX3_isReached 4 = .ok (.iload_n 1, 1) := by decide +kernel
theorem dX3_isReached_5 : decode cX3_isReached 5 = .ok (.invokevirtual 82, 3) := by decide +kernel
theorem dX3_isReached_8 : decode cX3_isReached 8 = .ok (.iconst (-1), 1) := by decide +kernel
theorem dX3_isReached_9 : decode cX3_isReached 9 = .ok (.if_icmp .eq 7, 3) := by decide +kernel
theorem dX3_isReached_12 : decode cX3_isReached 12 = .ok (.iconst 1, 1) := by decide +kernel
theorem dX3_isReached_13 : decode cX3_isReached 13 = .ok (.goto 4, 3) := by decide +kernel
theorem dX3_isReached_16 : decode cX3_isReached 16 = .ok (.iconst 0, 1) := by decide +kernel
theorem dX3_isReached_17 : decode cX3_isReached 17 = .ok (.ireturn, 1) := by decide +kernel
theorem dX3_isStuck_0 : decode cX3_isStuck 0 = .ok (.aload_n 0, 1) := by decide +kernel
theorem dX3_isStuck_1 : decode cX3_isStuck 1 = .ok (.iload_n 1, 1) := by decide +kernel
theorem dX3_isStuck_2 : decode cX3_isStuck 2 = .ok (.invokevirtual 97, 3) := by decide +kernel
theorem dX3_isStuck_5 : decode cX3_isStuck 5 = .ok (.ifCond .eq 37, 3) := by decide +kernel
theorem dX3_isStuck_8 : decode cX3_isStuck 8 = .ok (.iload_n 1, 1) := by decide +kernel
theorem dX3_isStuck_9 : decode cX3_isStuck 9 = .ok (.invokestatic 109, 3) := by decide +kernel
theorem dX3_isStuck_12 : decode cX3_isStuck 12 = .ok (.aload_n 0, 1) := by decide +kernel
theorem dX3_isStuck_13 : decode cX3_isStuck 13 = .ok (.getfield 43, 3) := by decide +kernel
theorem dX3_isStuck_16 : decode cX3_isStuck 16 = .ok (.invokestatic 89, 3) := by decide +kernel
theorem dX3_isStuck_19 : decode cX3_isStuck 19 = .ok (.ifCond .ne 23, 3) := by decide +kernel
theorem dX3_isStuck_22 : decode cX3_isStuck 22 = .ok (.aload_n 0, 1) := by decide +kernel
theorem dX3_isStuck_23 : decode cX3_isStuck 23 = .ok (.getfield 40, 3) := by decide +kernel
theorem dX3_isStuck_26 : decode cX3_isStuck 26 = .ok (.iload_n 1, 1) := by decide +kernel
theorem dX3_isStuck_27 : decode cX3_isStuck 27 = .ok (.invokevirtual 82, 3) := by decide +kernel
theorem dX3_isStuck_30 : decode cX3_isStuck 30 = .ok (.aload_n 0, 1) := by decide +kernel
theorem dX3_isStuck_31 : decode cX3_isStuck 31 = .ok (.getfield 43, 3) := by decide +kernel
theorem dX3_isStuck_34 : decode cX3_isStuck 34 = .ok (.iand, 1) := by decide +kernel
theorem dX3_isStuck_35 : decode cX3_isStuck 35 = .ok (.ifCond .ne 7, 3) := by decide +kernel
theorem dX3_isStuck_38 : decode cX3_isStuck 38 = .ok (.iconst 1, 1) := by decide +kernel
theorem dX3_isStuck_39 : decode cX3_isStuck 39 = .ok (.goto 4, 3) := by decide +kernel
theorem dX3_isStuck_42 : decode cX3_isStuck 42 = .ok (.iconst 0, 1) := by decide +kernel
theorem dX3_isStuck_43 : decode cX3_isStuck 43 = .ok (.ireturn, 1) := by decide +kernel
theorem dX3_placesWith_0 : decode cX3_placesWith 0 = .ok (.iconst 0, 1) := by decide +kernel
theorem dX3_placesWith_1 : decode cX3_placesWith 1 = .ok (.istore_n 2, 1) := by decide +kernel
theorem dX3_placesWith_2 : decode cX3_placesWith 2 = .ok (.iconst 0, 1) := by decide +kernel
theorem dX3_placesWith_3 : decode cX3_placesWith 3 = .ok (.istore_n 3, 1) := by decide +kernel
theorem dX3_placesWith_4 : decode cX3_placesWith 4 = .ok (.iload_n 3, 1) := by decide +kernel
theorem dX3_placesWith_5 : decode cX3_placesWith 5 = .ok (.bipush 32, 2) := by decide +kernel
theorem dX3_placesWith_7 : decode cX3_placesWith 7 = .ok (.if_icmp .ge 24, 3) := by decide +kernel
theorem dX3_placesWith_10 : decode cX3_placesWith 10 = .ok (.iload_n 2, 1) := by decide +kernel
theorem dX3_placesWith_11 : decode cX3_placesWith 11 = .ok (.aload_n 0, 1) := by decide +kernel
theorem dX3_placesWith_12 : decode cX3_placesWith 12 = .ok (.iload_n 1, 1) := by decide +kernel
theorem dX3_placesWith_13 : decode cX3_placesWith 13 = .ok (.iload_n 3, 1) := by decide +kernel
theorem dX3_placesWith_14 : decode cX3_placesWith 14 = .ok (.invokestatic 122, 3) := by decide +kernel
theorem dX3_placesWith_17 : decode cX3_placesWith 17 = .ok (.invokevirtual 97, 3) := by decide +kernel
theorem dX3_placesWith_20 : decode cX3_placesWith 20 = .ok (.invokestatic 115, 3) := by decide +kernel
theorem dX3_placesWith_23 : decode cX3_placesWith 23 = .ok (.iadd, 1) := by decide +kernel
theorem dX3_placesWith_24 : decode cX3_placesWith 24 = .ok (.istore_n 2, 1) := by decide +kernel
theorem dX3_placesWith_25 : decode cX3_placesWith 25 = .ok (.iinc 3 1, 3) := by decide +kernel
theorem dX3_placesWith_28 : decode cX3_placesWith 28 = .ok (.goto (-24), 3) := by decide +kernel
theorem dX3_placesWith_31 : decode cX3_placesWith 31 = .ok (.iload_n 2, 1) := by decide +kernel
theorem dX3_placesWith_32 : decode cX3_placesWith 32 = .ok (.ireturn, 1) := by decide +kernel
theorem dX3_isDead_0 : decode cX3_isDead 0 = .ok (.aload_n 0, 1) := by decide +kernel
theorem dX3_isDead_1 : decode cX3_isDead 1 = .ok (.iload_n 1, 1) := by decide +kernel
theorem dX3_isDead_2 : decode cX3_isDead 2 = .ok (.invokevirtual 125, 3) := by decide +kernel
theorem dX3_isDead_5 : decode cX3_isDead 5 = .ok (.ifCond .ne 7, 3) := by decide +kernel
theorem dX3_isDead_8 : decode cX3_isDead 8 = .ok (.iconst 1, 1) := by decide +kernel
theorem dX3_isDead_9 : decode cX3_isDead 9 = .ok (.goto 4, 3) := by decide +kernel
theorem dX3_isDead_12 : decode cX3_isDead 12 = .ok (.iconst 0, 1) := by decide +kernel
theorem dX3_isDead_13 : decode cX3_isDead 13 = .ok (.ireturn, 1) := by decide +kernel
theorem dX3_comesAgain_0 : decode cX3_comesAgain 0 = .ok (.iconst 0, 1) := by decide +kernel
theorem dX3_comesAgain_1 : decode cX3_comesAgain 1 = .ok (.istore_n 2, 1) := by decide +kernel
theorem dX3_comesAgain_2 : decode cX3_comesAgain 2 = .ok (.iload_n 2, 1) := by decide +kernel
theorem dX3_comesAgain_3 : decode cX3_comesAgain 3 = .ok (.bipush 32, 2) := by decide +kernel
theorem dX3_comesAgain_5 : decode cX3_comesAgain 5 = .ok (.if_icmp .ge 40, 3) := by decide +kernel
theorem dX3_comesAgain_8 : decode cX3_comesAgain 8 = .ok (.iload_n 1, 1) := by decide +kernel
theorem dX3_comesAgain_9 : decode cX3_comesAgain 9 = .ok (.iload_n 2, 1) := by decide +kernel
theorem dX3_comesAgain_10 : decode cX3_comesAgain 10 = .ok (.invokestatic 122, 3) := by decide +kernel
theorem dX3_comesAgain_13 : decode cX3_comesAgain 13 = .ok (.istore_n 3, 1) := by decide +kernel
theorem dX3_comesAgain_14 : decode cX3_comesAgain 14 = .ok (.aload_n 0, 1) := by decide +kernel
theorem dX3_comesAgain_15 : decode cX3_comesAgain 15 = .ok (.iload_n 3, 1) := by decide +kernel
theorem dX3_comesAgain_16 : decode cX3_comesAgain 16 = .ok (.invokevirtual 97, 3) := by decide +kernel
theorem dX3_comesAgain_19 : decode cX3_comesAgain 19 = .ok (.ifCond .eq 20, 3) := by decide +kernel
theorem dX3_comesAgain_22 : decode cX3_comesAgain 22 = .ok (.iload_n 1, 1) := by decide +kernel
theorem dX3_comesAgain_23 : decode cX3_comesAgain 23 = .ok (.aload_n 0, 1) := by decide +kernel
theorem dX3_comesAgain_24 : decode cX3_comesAgain 24 = .ok (.getfield 40, 3) := by decide +kernel
theorem dX3_comesAgain_27 : decode cX3_comesAgain 27 = .ok (.iload_n 3, 1) := by decide +kernel
theorem dX3_comesAgain_28 : decode cX3_comesAgain 28 = .ok (.invokevirtual 82, 3) := by decide +kernel
theorem dX3_comesAgain_31 : decode cX3_comesAgain 31 = .ok (.invokestatic 89, 3) := by decide +kernel
theorem dX3_comesAgain_34 : decode cX3_comesAgain 34 = .ok (.ifCond .eq 5, 3) := by decide +kernel
theorem dX3_comesAgain_37 : decode cX3_comesAgain 37 = .ok (.iconst 1, 1) := by decide +kernel
theorem dX3_comesAgain_38 : decode cX3_comesAgain 38 = .ok (.ireturn, 1) := by decide +kernel
theorem dX3_comesAgain_39 : decode cX3_comesAgain 39 = .ok (.iinc 2 1, 3) := by decide +kernel
theorem dX3_comesAgain_42 : decode cX3_comesAgain 42 = .ok (.goto (-40), 3) := by decide +kernel
theorem dX3_comesAgain_45 : decode cX3_comesAgain 45 = .ok (.iconst 0, 1) := by decide +kernel
theorem dX3_comesAgain_46 : decode cX3_comesAgain 46 = .ok (.ireturn, 1) := by decide +kernel
theorem dX3_stuckPlacesWith_0 : decode cX3_stuckPlacesWith 0 = .ok (.iconst 0, 1) := by decide +kernel
theorem dX3_stuckPlacesWith_1 : decode cX3_stuckPlacesWith 1 = .ok (.istore_n 2, 1) := by decide +kernel
theorem dX3_stuckPlacesWith_2 : decode cX3_stuckPlacesWith 2 = .ok (.iconst 0, 1) := by decide +kernel
theorem dX3_stuckPlacesWith_3 : decode cX3_stuckPlacesWith 3 = .ok (.istore_n 3, 1) := by decide +kernel
theorem dX3_stuckPlacesWith_4 : decode cX3_stuckPlacesWith 4 = .ok (.iload_n 3, 1) := by decide +kernel
theorem dX3_stuckPlacesWith_5 : decode cX3_stuckPlacesWith 5 = .ok (.bipush 32, 2) := by decide +kernel
theorem dX3_stuckPlacesWith_7 : decode cX3_stuckPlacesWith 7 = .ok (.if_icmp .ge 24, 3) := by decide +kernel
theorem dX3_stuckPlacesWith_10 : decode cX3_stuckPlacesWith 10 = .ok (.iload_n 2, 1) := by decide +kernel
theorem dX3_stuckPlacesWith_11 : decode cX3_stuckPlacesWith 11 = .ok (.aload_n 0, 1) := by decide +kernel
theorem dX3_stuckPlacesWith_12 : decode cX3_stuckPlacesWith 12 = .ok (.iload_n 1, 1) := by decide +kernel
theorem dX3_stuckPlacesWith_13 : decode cX3_stuckPlacesWith 13 = .ok (.iload_n 3, 1) := by decide +kernel
theorem dX3_stuckPlacesWith_14 : decode cX3_stuckPlacesWith 14 = .ok (.invokestatic 122, 3) := by decide +kernel
theorem dX3_stuckPlacesWith_17 : decode cX3_stuckPlacesWith 17 = .ok (.invokevirtual 128, 3) := by decide +kernel
theorem dX3_stuckPlacesWith_20 : decode cX3_stuckPlacesWith 20 = .ok (.invokestatic 115, 3) := by decide +kernel
theorem dX3_stuckPlacesWith_23 : decode cX3_stuckPlacesWith 23 = .ok (.iadd, 1) := by decide +kernel
theorem dX3_stuckPlacesWith_24 : decode cX3_stuckPlacesWith 24 = .ok (.istore_n 2, 1) := by decide +kernel
theorem dX3_stuckPlacesWith_25 : decode cX3_stuckPlacesWith 25 = .ok (.iinc 3 1, 3) := by decide +kernel
theorem dX3_stuckPlacesWith_28 : decode cX3_stuckPlacesWith 28 = .ok (.goto (-24), 3) := by decide +kernel
theorem dX3_stuckPlacesWith_31 : decode cX3_stuckPlacesWith 31 = .ok (.iload_n 2, 1) := by decide +kernel
theorem dX3_stuckPlacesWith_32 : decode cX3_stuckPlacesWith 32 = .ok (.ireturn, 1) := by decide +kernel
theorem dX3_fewestChoicesTo_0 : decode cX3_fewestChoicesTo 0 = .ok (.iconst 0, 1) := by decide +kernel
theorem dX3_fewestChoicesTo_1 : decode cX3_fewestChoicesTo 1 = .ok (.istore_n 2, 1) := by decide +kernel
theorem dX3_fewestChoicesTo_2 : decode cX3_fewestChoicesTo 2 = .ok (.iload_n 2, 1) := by decide +kernel
theorem dX3_fewestChoicesTo_3 : decode cX3_fewestChoicesTo 3 = .ok (.aload_n 0, 1) := by decide +kernel
theorem dX3_fewestChoicesTo_4 : decode cX3_fewestChoicesTo 4 = .ok (.getfield 19, 3) := by decide +kernel
theorem dX3_fewestChoicesTo_7 : decode cX3_fewestChoicesTo 7 = .ok (.if_icmp .ge 40, 3) := by decide +kernel
theorem dX3_fewestChoicesTo_10 : decode cX3_fewestChoicesTo 10 = .ok (.aload_n 0, 1) := by decide +kernel
theorem dX3_fewestChoicesTo_11 : decode cX3_fewestChoicesTo 11 = .ok (.getfield 27, 3) := by decide +kernel
theorem dX3_fewestChoicesTo_14 : decode cX3_fewestChoicesTo 14 = .ok (.iload_n 2, 1) := by decide +kernel
theorem dX3_fewestChoicesTo_15 : decode cX3_fewestChoicesTo 15 = .ok (.invokevirtual 82, 3) := by decide +kernel
theorem dX3_fewestChoicesTo_18 : decode cX3_fewestChoicesTo 18 = .ok (.invokestatic 109, 3) := by decide +kernel
theorem dX3_fewestChoicesTo_21 : decode cX3_fewestChoicesTo 21 = .ok (.iload_n 1, 1) := by decide +kernel
theorem dX3_fewestChoicesTo_22 : decode cX3_fewestChoicesTo 22 = .ok (.if_icmp .ne 19, 3) := by decide +kernel
theorem dX3_fewestChoicesTo_25 : decode cX3_fewestChoicesTo 25 = .ok (.aload_n 0, 1) := by decide +kernel
theorem dX3_fewestChoicesTo_26 : decode cX3_fewestChoicesTo 26 = .ok (.getfield 31, 3) := by decide +kernel
theorem dX3_fewestChoicesTo_29 : decode cX3_fewestChoicesTo 29 = .ok (.aload_n 0, 1) := by decide +kernel
theorem dX3_fewestChoicesTo_30 : decode cX3_fewestChoicesTo 30 = .ok (.getfield 27, 3) := by decide +kernel
theorem dX3_fewestChoicesTo_33 : decode cX3_fewestChoicesTo 33 = .ok (.iload_n 2, 1) := by decide +kernel
theorem dX3_fewestChoicesTo_34 : decode cX3_fewestChoicesTo 34 = .ok (.invokevirtual 82, 3) := by decide +kernel
theorem dX3_fewestChoicesTo_37 : decode cX3_fewestChoicesTo 37 = .ok (.invokevirtual 82, 3) := by decide +kernel
theorem dX3_fewestChoicesTo_40 : decode cX3_fewestChoicesTo 40 = .ok (.ireturn, 1) := by decide +kernel
theorem dX3_fewestChoicesTo_41 : decode cX3_fewestChoicesTo 41 = .ok (.iinc 2 1, 3) := by decide +kernel
theorem dX3_fewestChoicesTo_44 : decode cX3_fewestChoicesTo 44 = .ok (.goto (-42), 3) := by decide +kernel
theorem dX3_fewestChoicesTo_47 : decode cX3_fewestChoicesTo 47 = .ok (.bipush (-5), 2) := by decide +kernel
theorem dX3_fewestChoicesTo_49 : decode cX3_fewestChoicesTo 49 = .ok (.ireturn, 1) := by decide +kernel
theorem dX3_deadPages_0 : decode cX3_deadPages 0 = .ok (.iconst 0, 1) := by decide +kernel
theorem dX3_deadPages_1 : decode cX3_deadPages 1 = .ok (.istore_n 1, 1) := by decide +kernel
theorem dX3_deadPages_2 : decode cX3_deadPages 2 = .ok (.iconst 0, 1) := by decide +kernel
theorem dX3_deadPages_3 : decode cX3_deadPages 3 = .ok (.istore_n 2, 1) := by decide +kernel
theorem dX3_deadPages_4 : decode cX3_deadPages 4 = .ok (.iload_n 2, 1) := by decide +kernel
theorem dX3_deadPages_5 : decode cX3_deadPages 5 = .ok (.aload_n 0, 1) := by decide +kernel
theorem dX3_deadPages_6 : decode cX3_deadPages 6 = .ok (.getfield 15, 3) := by decide +kernel
theorem dX3_deadPages_9 : decode cX3_deadPages 9 = .ok (.if_icmp .ge 20, 3) := by decide +kernel
theorem dX3_deadPages_12 : decode cX3_deadPages 12 = .ok (.iload_n 1, 1) := by decide +kernel
theorem dX3_deadPages_13 : decode cX3_deadPages 13 = .ok (.aload_n 0, 1) := by decide +kernel
theorem dX3_deadPages_14 : decode cX3_deadPages 14 = .ok (.iload_n 2, 1) := by decide +kernel
theorem dX3_deadPages_15 : decode cX3_deadPages 15 = .ok (.invokevirtual 131, 3) := by decide +kernel
theorem dX3_deadPages_18 : decode cX3_deadPages 18 = .ok (.invokestatic 115, 3) := by decide +kernel
theorem dX3_deadPages_21 : decode cX3_deadPages 21 = .ok (.iadd, 1) := by decide +kernel
theorem dX3_deadPages_22 : decode cX3_deadPages 22 = .ok (.istore_n 1, 1) := by decide +kernel
theorem dX3_deadPages_23 : decode cX3_deadPages 23 = .ok (.iinc 2 1, 3) := by decide +kernel
theorem dX3_deadPages_26 : decode cX3_deadPages 26 = .ok (.goto (-22), 3) := by decide +kernel
theorem dX3_deadPages_29 : decode cX3_deadPages 29 = .ok (.iload_n 1, 1) := by decide +kernel
theorem dX3_deadPages_30 : decode cX3_deadPages 30 = .ok (.ireturn, 1) := by decide +kernel
theorem dX3_pagesThatComeAgain_0 : decode cX3_pagesThatComeAgain 0 = .ok (.iconst 0, 1) := by decide +kernel
theorem dX3_pagesThatComeAgain_1 : decode cX3_pagesThatComeAgain 1 = .ok (.istore_n 1, 1) := by decide +kernel
theorem dX3_pagesThatComeAgain_2 : decode cX3_pagesThatComeAgain 2 = .ok (.iconst 0, 1) := by decide +kernel
theorem dX3_pagesThatComeAgain_3 : decode cX3_pagesThatComeAgain 3 = .ok (.istore_n 2, 1) := by decide +kernel
theorem dX3_pagesThatComeAgain_4 : decode cX3_pagesThatComeAgain 4 = .ok (.iload_n 2, 1) := by decide +kernel
theorem dX3_pagesThatComeAgain_5 : decode cX3_pagesThatComeAgain 5 = .ok (.aload_n 0, 1) := by decide +kernel
theorem dX3_pagesThatComeAgain_6 : decode cX3_pagesThatComeAgain 6 = .ok (.getfield 15, 3) := by decide +kernel
theorem dX3_pagesThatComeAgain_9 : decode cX3_pagesThatComeAgain 9 = .ok (.if_icmp .ge 20, 3) := by decide +kernel
theorem dX3_pagesThatComeAgain_12 : decode cX3_pagesThatComeAgain 12 = .ok (.iload_n 1, 1) := by decide +kernel
theorem dX3_pagesThatComeAgain_13 : decode cX3_pagesThatComeAgain 13 = .ok (.aload_n 0, 1) := by decide +kernel
theorem dX3_pagesThatComeAgain_14 : decode cX3_pagesThatComeAgain 14 = .ok (.iload_n 2, 1) := by decide +kernel
theorem dX3_pagesThatComeAgain_15 : decode cX3_pagesThatComeAgain 15 = .ok (.invokevirtual 134, 3) := by decide +kernel
theorem dX3_pagesThatComeAgain_18 : decode cX3_pagesThatComeAgain 18 = .ok (.invokestatic 115, 3) := by decide +kernel
theorem dX3_pagesThatComeAgain_21 : decode cX3_pagesThatComeAgain 21 = .ok (.iadd, 1) := by decide +kernel
theorem dX3_pagesThatComeAgain_22 : decode cX3_pagesThatComeAgain 22 = .ok (.istore_n 1, 1) := by decide +kernel
theorem dX3_pagesThatComeAgain_23 : decode cX3_pagesThatComeAgain 23 = .ok (.iinc 2 1, 3) := by decide +kernel
theorem dX3_pagesThatComeAgain_26 : decode cX3_pagesThatComeAgain 26 = .ok (.goto (-22), 3) := by decide +kernel
theorem dX3_pagesThatComeAgain_29 : decode cX3_pagesThatComeAgain 29 = .ok (.iload_n 1, 1) := by decide +kernel
theorem dX3_pagesThatComeAgain_30 : decode cX3_pagesThatComeAgain 30 = .ok (.ireturn, 1) := by decide +kernel
theorem dX3_stuckPlaces_0 : decode cX3_stuckPlaces 0 = .ok (.iconst 0, 1) := by decide +kernel
theorem dX3_stuckPlaces_1 : decode cX3_stuckPlaces 1 = .ok (.istore_n 1, 1) := by decide +kernel
theorem dX3_stuckPlaces_2 : decode cX3_stuckPlaces 2 = .ok (.iconst 0, 1) := by decide +kernel
theorem dX3_stuckPlaces_3 : decode cX3_stuckPlaces 3 = .ok (.istore_n 2, 1) := by decide +kernel
theorem dX3_stuckPlaces_4 : decode cX3_stuckPlaces 4 = .ok (.iload_n 2, 1) := by decide +kernel
theorem dX3_stuckPlaces_5 : decode cX3_stuckPlaces 5 = .ok (.aload_n 0, 1) := by decide +kernel
theorem dX3_stuckPlaces_6 : decode cX3_stuckPlaces 6 = .ok (.getfield 15, 3) := by decide +kernel
theorem dX3_stuckPlaces_9 : decode cX3_stuckPlaces 9 = .ok (.if_icmp .ge 17, 3) := by decide +kernel
theorem dX3_stuckPlaces_12 : decode cX3_stuckPlaces 12 = .ok (.iload_n 1, 1) := by decide +kernel
theorem dX3_stuckPlaces_13 : decode cX3_stuckPlaces 13 = .ok (.aload_n 0, 1) := by decide +kernel
theorem dX3_stuckPlaces_14 : decode cX3_stuckPlaces 14 = .ok (.iload_n 2, 1) := by decide +kernel
theorem dX3_stuckPlaces_15 : decode cX3_stuckPlaces 15 = .ok (.invokevirtual 137, 3) := by decide +kernel
theorem dX3_stuckPlaces_18 : decode cX3_stuckPlaces 18 = .ok (.iadd, 1) := by decide +kernel
theorem dX3_stuckPlaces_19 : decode cX3_stuckPlaces 19 = .ok (.istore_n 1, 1) := by decide +kernel
theorem dX3_stuckPlaces_20 : decode cX3_stuckPlaces 20 = .ok (.iinc 2 1, 3) := by decide +kernel
theorem dX3_stuckPlaces_23 : decode cX3_stuckPlaces 23 = .ok (.goto (-19), 3) := by decide +kernel
theorem dX3_stuckPlaces_26 : decode cX3_stuckPlaces 26 = .ok (.iload_n 1, 1) := by decide +kernel
theorem dX3_stuckPlaces_27 : decode cX3_stuckPlaces 27 = .ok (.ireturn, 1) := by decide +kernel
theorem dX3_livePagesOf_0 : decode cX3_livePagesOf 0 = .ok (.iconst 0, 1) := by decide +kernel
theorem dX3_livePagesOf_1 : decode cX3_livePagesOf 1 = .ok (.istore_n 2, 1) := by decide +kernel
theorem dX3_livePagesOf_2 : decode cX3_livePagesOf 2 = .ok (.iconst 0, 1) := by decide +kernel
theorem dX3_livePagesOf_3 : decode cX3_livePagesOf 3 = .ok (.istore_n 3, 1) := by decide +kernel
theorem dX3_livePagesOf_4 : decode cX3_livePagesOf 4 = .ok (.iload_n 3, 1) := by decide +kernel
theorem dX3_livePagesOf_5 : decode cX3_livePagesOf 5 = .ok (.aload_n 0, 1) := by decide +kernel
theorem dX3_livePagesOf_6 : decode cX3_livePagesOf 6 = .ok (.getfield 15, 3) := by decide +kernel
theorem dX3_livePagesOf_9 : decode cX3_livePagesOf 9 = .ok (.if_icmp .ge 36, 3) := by decide +kernel
theorem dX3_livePagesOf_12 : decode cX3_livePagesOf 12 = .ok (.iload_n 2, 1) := by decide +kernel
theorem dX3_livePagesOf_13 : decode cX3_livePagesOf 13 = .ok (.iload_n 3, 1) := by decide +kernel
theorem dX3_livePagesOf_14 : decode cX3_livePagesOf 14 = .ok (.iload_n 1, 1) := by decide +kernel
theorem dX3_livePagesOf_15 : decode cX3_livePagesOf 15 = .ok (.invokestatic 89, 3) := by decide +kernel
theorem dX3_livePagesOf_18 : decode cX3_livePagesOf 18 = .ok (.ifCond .eq 15, 3) := by decide +kernel
theorem dX3_livePagesOf_21 : decode cX3_livePagesOf 21 = .ok (.aload_n 0, 1) := by decide +kernel
theorem dX3_livePagesOf_22 : decode cX3_livePagesOf 22 = .ok (.iload_n 3, 1) := by decide +kernel
theorem dX3_livePagesOf_23 : decode cX3_livePagesOf 23 = .ok (.invokevirtual 131, 3) := by decide +kernel
theorem dX3_livePagesOf_26 : decode cX3_livePagesOf 26 = .ok (.ifCond .ne 7, 3) := by decide +kernel
theorem dX3_livePagesOf_29 : decode cX3_livePagesOf 29 = .ok (.iconst 1, 1) := by decide +kernel
theorem dX3_livePagesOf_30 : decode cX3_livePagesOf 30 = .ok (.goto 4, 3) := by decide +kernel
theorem dX3_livePagesOf_33 : decode cX3_livePagesOf 33 = .ok (.iconst 0, 1) := by decide +kernel
theorem dX3_livePagesOf_34 : decode cX3_livePagesOf 34 = .ok (.invokestatic 115, 3) := by decide +kernel
theorem dX3_livePagesOf_37 : decode cX3_livePagesOf 37 = .ok (.iadd, 1) := by decide +kernel
theorem dX3_livePagesOf_38 : decode cX3_livePagesOf 38 = .ok (.istore_n 2, 1) := by decide +kernel
theorem dX3_livePagesOf_39 : decode cX3_livePagesOf 39 = .ok (.iinc 3 1, 3) := by decide +kernel
theorem dX3_livePagesOf_42 : decode cX3_livePagesOf 42 = .ok (.goto (-38), 3) := by decide +kernel
theorem dX3_livePagesOf_45 : decode cX3_livePagesOf 45 = .ok (.iload_n 2, 1) := by decide +kernel
theorem dX3_livePagesOf_46 : decode cX3_livePagesOf 46 = .ok (.ireturn, 1) := by decide +kernel
theorem dX3_isEverOpen_0 : decode cX3_isEverOpen 0 = .ok (.iconst 0, 1) := by decide +kernel
theorem dX3_isEverOpen_1 : decode cX3_isEverOpen 1 = .ok (.istore 4, 2) := by decide +kernel
theorem dX3_isEverOpen_3 : decode cX3_isEverOpen 3 = .ok (.iload 4, 2) := by decide +kernel
theorem dX3_isEverOpen_5 : decode cX3_isEverOpen 5 = .ok (.bipush 32, 2) := by decide +kernel
theorem dX3_isEverOpen_7 : decode cX3_isEverOpen 7 = .ok (.if_icmp .ge 38, 3) := by decide +kernel
theorem dX3_isEverOpen_10 : decode cX3_isEverOpen 10 = .ok (.iload_n 2, 1) := by decide +kernel
theorem dX3_isEverOpen_11 : decode cX3_isEverOpen 11 = .ok (.iload 4, 2) := by decide +kernel
theorem dX3_isEverOpen_13 : decode cX3_isEverOpen 13 = .ok (.invokestatic 122, 3) := by decide +kernel
theorem dX3_isEverOpen_16 : decode cX3_isEverOpen 16 = .ok (.istore 5, 2) := by decide +kernel
theorem dX3_isEverOpen_18 : decode cX3_isEverOpen 18 = .ok (.aload_n 0, 1) := by decide +kernel
theorem dX3_isEverOpen_19 : decode cX3_isEverOpen 19 = .ok (.iload 5, 2) := by decide +kernel
theorem dX3_isEverOpen_21 : decode cX3_isEverOpen 21 = .ok (.invokevirtual 97, 3) := by decide +kernel
theorem dX3_isEverOpen_24 : decode cX3_isEverOpen 24 = .ok (.ifCond .eq 15, 3) := by decide +kernel
theorem dX3_isEverOpen_27 : decode cX3_isEverOpen 27 = .ok (.aload_n 1, 1) := by decide +kernel
theorem dX3_isEverOpen_28 : decode cX3_isEverOpen 28 = .ok (.iload 5, 2) := by decide +kernel
theorem dX3_isEverOpen_30 : decode cX3_isEverOpen 30 = .ok (.iload_n 3, 1) := by decide +kernel
theorem dX3_isEverOpen_31 : decode cX3_isEverOpen 31 = .ok (.invokevirtual 140, 3) := by decide +kernel
theorem dX3_isEverOpen_34 : decode cX3_isEverOpen 34 = .ok (.ifCond .ne 5, 3) := by decide +kernel
theorem dX3_isEverOpen_37 : decode cX3_isEverOpen 37 = .ok (.iconst 1, 1) := by decide +kernel
theorem dX3_isEverOpen_38 : decode cX3_isEverOpen 38 = .ok (.ireturn, 1) := by decide +kernel
theorem dX3_isEverOpen_39 : decode cX3_isEverOpen 39 = .ok (.iinc 4 1, 3) := by decide +kernel
theorem dX3_isEverOpen_42 : decode cX3_isEverOpen 42 = .ok (.goto (-39), 3) := by decide +kernel
theorem dX3_isEverOpen_45 : decode cX3_isEverOpen 45 = .ok (.iconst 0, 1) := by decide +kernel
theorem dX3_isEverOpen_46 : decode cX3_isEverOpen 46 = .ok (.ireturn, 1) := by decide +kernel
theorem dX4_init_0 : decode cX4_init 0 = .ok (.aload_n 0, 1) := by decide +kernel
theorem dX4_init_1 : decode cX4_init 1 = .ok (.invokespecial 3, 3) := by decide +kernel
theorem dX4_init_4 : decode cX4_init 4 = .ok (.aload_n 0, 1) := by decide +kernel
theorem dX4_init_5 : decode cX4_init 5 = .ok (.new 9, 3) := by decide +kernel
theorem dX4_init_8 : decode cX4_init 8 = .ok (.dup, 1) := by decide +kernel
theorem dX4_init_9 : decode cX4_init 9 = .ok (.bipush 60, 2) := by decide +kernel
theorem dX4_init_11 : decode cX4_init 11 = .ok (.invokespecial 11, 3) := by decide +kernel
theorem dX4_init_14 : decode cX4_init 14 = .ok (.putfield 14, 3) := by decide +kernel
theorem dX4_init_17 : decode cX4_init 17 = .ok (.aload_n 0, 1) := by decide +kernel
theorem dX4_init_18 : decode cX4_init 18 = .ok (.iconst 0, 1) := by decide +kernel
theorem dX4_init_19 : decode cX4_init 19 = .ok (.putfield 20, 3) := by decide +kernel
theorem dX4_init_22 : decode cX4_init 22 = .ok (.aload_n 0, 1) := by decide +kernel
theorem dX4_init_23 : decode cX4_init 23 = .ok (.iconst 0, 1) := by decide +kernel
theorem dX4_init_24 : decode cX4_init 24 = .ok (.putfield 24, 3) := by decide +kernel
theorem dX4_init_27 : decode cX4_init 27 = .ok (.aload_n 0, 1) := by decide +kernel
theorem dX4_init_28 : decode cX4_init 28 = .ok (.iconst 1, 1) := by decide +kernel
theorem dX4_init_29 : decode cX4_init 29 = .ok (.putfield 27, 3) := by decide +kernel
theorem dX4_init_32 : decode cX4_init 32 = .ok (.aload_n 0, 1) := by decide +kernel
theorem dX4_init_33 : decode cX4_init 33 = .ok (.iconst 0, 1) := by decide +kernel
theorem dX4_init_34 : decode cX4_init 34 = .ok (.putfield 31, 3) := by decide +kernel
theorem dX4_init_37 : decode cX4_init 37 = .ok (.aload_n 0, 1) := by decide +kernel
theorem dX4_init_38 : decode cX4_init 38 = .ok (.new 9, 3) := by decide +kernel
theorem dX4_init_41 : decode cX4_init 41 = .ok (.dup, 1) := by decide +kernel
theorem dX4_init_42 : decode cX4_init 42 = .ok (.bipush 16, 2) := by decide +kernel
theorem dX4_init_44 : decode cX4_init 44 = .ok (.invokespecial 11, 3) := by decide +kernel
theorem dX4_init_47 : decode cX4_init 47 = .ok (.putfield 34, 3) := by decide +kernel
theorem dX4_init_50 : decode cX4_init 50 = .ok (.aload_n 0, 1) := by decide +kernel
theorem dX4_init_51 : decode cX4_init 51 = .ok (.new 9, 3) := by decide +kernel
theorem dX4_init_54 : decode cX4_init 54 = .ok (.dup, 1) := by decide +kernel
theorem dX4_init_55 : decode cX4_init 55 = .ok (.bipush 16, 2) := by decide +kernel
theorem dX4_init_57 : decode cX4_init 57 = .ok (.invokespecial 11, 3) := by decide +kernel
theorem dX4_init_60 : decode cX4_init 60 = .ok (.putfield 37, 3) := by decide +kernel
theorem dX4_init_63 : decode cX4_init 63 = .ok (.aload_n 0, 1) := by decide +kernel
theorem dX4_init_64 : decode cX4_init 64 = .ok (.new 9, 3) := by decide +kernel
theorem dX4_init_67 : decode cX4_init 67 = .ok (.dup, 1) := by decide +kernel
theorem dX4_init_68 : decode cX4_init 68 = .ok (.bipush 16, 2) := by decide +kernel
theorem dX4_init_70 : decode cX4_init 70 = .ok (.invokespecial 11, 3) := by decide +kernel
theorem dX4_init_73 : decode cX4_init 73 = .ok (.putfield 40, 3) := by decide +kernel
theorem dX4_init_76 : decode cX4_init 76 = .ok (.aload_n 0, 1) := by decide +kernel
theorem dX4_init_77 : decode cX4_init 77 = .ok (.new 9, 3) := by decide +kernel
theorem dX4_init_80 : decode cX4_init 80 = .ok (.dup, 1) := by decide +kernel
theorem dX4_init_81 : decode cX4_init 81 = .ok (.bipush 16, 2) := by decide +kernel
theorem dX4_init_83 : decode cX4_init 83 = .ok (.invokespecial 11, 3) := by decide +kernel
theorem dX4_init_86 : decode cX4_init 86 = .ok (.putfield 43, 3) := by decide +kernel
theorem dX4_init_89 : decode cX4_init 89 = .ok (.return_, 1) := by decide +kernel
theorem dX4_append_0 : decode cX4_append 0 = .ok (.aload_n 0, 1) := by decide +kernel
theorem dX4_append_1 : decode cX4_append 1 = .ok (.getfield 14, 3) := by decide +kernel
theorem dX4_append_4 : decode cX4_append 4 = .ok (.aload_n 0, 1) := by decide +kernel
theorem dX4_append_5 : decode cX4_append 5 = .ok (.getfield 20, 3) := by decide +kernel
theorem dX4_append_8 : decode cX4_append 8 = .ok (.iload_n 1, 1) := by decide +kernel
theorem dX4_append_9 : decode cX4_append 9 = .ok (.invokevirtual 46, 3) := by decide +kernel
theorem dX4_append_12 : decode cX4_append 12 = .ok (.aload_n 0, 1) := by decide +kernel
theorem dX4_append_13 : decode cX4_append 13 = .ok (.aload_n 0, 1) := by decide +kernel
theorem dX4_append_14 : decode cX4_append 14 = .ok (.getfield 20, 3) := by decide +kernel
theorem dX4_append_17 : decode cX4_append 17 = .ok (.iconst 1, 1) := by decide +kernel
theorem dX4_append_18 : decode cX4_append 18 = .ok (.iadd, 1) := by decide +kernel
theorem dX4_append_19 : decode cX4_append 19 = .ok (.putfield 20, 3) := by decide +kernel
theorem dX4_append_22 : decode cX4_append 22 = .ok (.aload_n 0, 1) := by decide +kernel
theorem dX4_append_23 : decode cX4_append 23 = .ok (.getfield 20, 3) := by decide +kernel
theorem dX4_append_26 : decode cX4_append 26 = .ok (.ireturn, 1) := by decide +kernel
theorem dX4_parse_0 : decode cX4_parse 0 = .ok (.aload_n 0, 1) := by decide +kernel
theorem dX4_parse_1 : decode cX4_parse 1 = .ok (.iconst 0, 1) := by decide +kernel
theorem dX4_parse_2 : decode cX4_parse 2 = .ok (.putfield 24, 3) := by decide +kernel
theorem dX4_parse_5 : decode cX4_parse 5 = .ok (.aload_n 0, 1) := by decide +kernel
theorem dX4_parse_6 : decode cX4_parse 6 = .ok (.iconst 1, 1) := by decide +kernel
theorem dX4_parse_7 : decode cX4_parse 7 = .ok (.putfield 27, 3) := by decide +kernel
theorem dX4_parse_10 : decode cX4_parse 10 = .ok (.aload_n 0, 1) := by decide +kernel
theorem dX4_parse_11 : decode cX4_parse 11 = .ok (.iconst 0, 1) := by decide +kernel
theorem dX4_parse_12 : decode cX4_parse 12 = .ok (.putfield 31, 3) := by decide +kernel
theorem dX4_parse_15 : decode cX4_parse 15 = .ok (.aload_n 0, 1) := by decide +kernel
theorem dX4_parse_16 : decode cX4_parse 16 = .ok (.invokevirtual 50, 3) := by decide +kernel
theorem dX4_parse_19 : decode cX4_parse 19 = .ok (.iconst 1, 1) := by decide +kernel
theorem dX4_parse_20 : decode cX4_parse 20 = .ok (.istore_n 1, 1) := by decide +kernel
theorem dX4_parse_21 : decode cX4_parse 21 = .ok (.iload_n 1, 1) := by decide +kernel
theorem dX4_parse_22 : decode cX4_parse 22 = .ok (.bipush 16, 2) := by decide +kernel
theorem dX4_parse_24 : decode cX4_parse 24 = .ok (.if_icmp .ge 39, 3) := by decide +kernel
theorem dX4_parse_27 : decode cX4_parse 27 = .ok (.aload_n 0, 1) := by decide +kernel
theorem dX4_parse_28 : decode cX4_parse 28 = .ok (.getfield 27, 3) := by decide +kernel
theorem dX4_parse_31 : decode cX4_parse 31 = .ok (.ifCond .eq 32, 3) := by decide +kernel
theorem dX4_parse_34 : decode cX4_parse 34 = .ok (.aload_n 0, 1) := by decide +kernel
theorem dX4_parse_35 : decode cX4_parse 35 = .ok (.invokevirtual 53, 3) := by decide +kernel
theorem dX4_parse_38 : decode cX4_parse 38 = .ok (.bipush 59, 2) := by decide +kernel
theorem dX4_parse_40 : decode cX4_parse 40 = .ok (.if_icmp .ne 23, 3) := by decide +kernel
theorem dX4_parse_43 : decode cX4_parse 43 = .ok (.aload_n 0, 1) := by decide +kernel
theorem dX4_parse_44 : decode cX4_parse 44 = .ok (.aload_n 0, 1) := by decide +kernel
theorem dX4_parse_45 : decode cX4_parse 45 = .ok (.getfield 24, 3) := by decide +kernel
theorem dX4_parse_48 : decode cX4_parse 48 = .ok (.iconst 1, 1) := by decide +kernel
theorem dX4_parse_49 : decode cX4_parse 49 = .ok (.iadd, 1) := by decide +kernel
theorem dX4_parse_50 : decode cX4_parse 50 = .ok (.putfield 24, 3) := by decide +kernel
theorem dX4_parse_53 : decode cX4_parse 53 = .ok (.aload_n 0, 1) := by decide +kernel
theorem dX4_parse_54 : decode cX4_parse 54 = .ok (.invokevirtual 50, 3) := by decide +kernel
theorem dX4_parse_57 : decode cX4_parse 57 = .ok (.iinc 1 1, 3) := by decide +kernel
theorem dX4_parse_60 : decode cX4_parse 60 = .ok (.goto (-39), 3) := by decide +kernel
theorem dX4_parse_63 : decode cX4_parse 63 = .ok (.aload_n 0, 1) := by decide +kernel
theorem dX4_parse_64 : decode cX4_parse 64 = .ok (.getfield 27, 3) := by decide +kernel
theorem dX4_parse_67 : decode cX4_parse 67 = .ok (.ifCond .eq 18, 3) := by decide +kernel
theorem dX4_parse_70 : decode cX4_parse 70 = .ok (.aload_n 0, 1) := by decide +kernel
theorem dX4_parse_71 : decode cX4_parse 71 = .ok (.getfield 24, 3) := by decide +kernel
theorem dX4_parse_74 : decode cX4_parse 74 = .ok (.aload_n 0, 1) := by decide +kernel
theorem dX4_parse_75 : decode cX4_parse 75 = .ok (.getfield 20, 3) := by decide +kernel
theorem dX4_parse_78 : decode cX4_parse 78 = .ok (.if_icmp .ne 7, 3) := by decide +kernel
theorem dX4_parse_81 : decode cX4_parse 81 = .ok (.iconst 1, 1) := by decide +kernel
theorem dX4_parse_82 : decode cX4_parse 82 = .ok (.goto 4, 3) := by decide +kernel
theorem dX4_parse_85 : decode cX4_parse 85 = .ok (.iconst 0, 1) := by decide +kernel
theorem dX4_parse_86 : decode cX4_parse 86 = .ok (.ireturn, 1) := by decide +kernel
theorem dX4_sign_0 : decode cX4_sign 0 = .ok (.aload_n 0, 1) := by decide +kernel
theorem dX4_sign_1 : decode cX4_sign 1 = .ok (.getfield 24, 3) := by decide +kernel
theorem dX4_sign_4 : decode cX4_sign 4 = .ok (.aload_n 0, 1) := by decide +kernel
theorem dX4_sign_5 : decode cX4_sign 5 = .ok (.getfield 20, 3) := by decide +kernel
theorem dX4_sign_8 : decode cX4_sign 8 = .ok (.if_icmp .ge 17, 3) := by decide +kernel
theorem dX4_sign_11 : decode cX4_sign 11 = .ok (.aload_n 0, 1) := by decide +kernel
theorem dX4_sign_12 : decode cX4_sign 12 = .ok (.getfield 14, 3) := by decide +kernel
theorem dX4_sign_15 : decode cX4_sign 15 = .ok (.aload_n 0, 1) := by decide +kernel
theorem dX4_sign_16 : decode cX4_sign 16 = .ok (.getfield 24, 3) := by decide +kernel
theorem dX4_sign_19 : decode cX4_sign 19 = .ok (.invokevirtual 57, 3) := by decide +kernel
theorem dX4_sign_22 : decode cX4_sign 22 = .ok (.goto 4, 3) := by decide +kernel
theorem dX4_sign_25 : decode cX4_sign 25 = .ok (.iconst (-1), 1) := by decide +kernel
theorem dX4_sign_26 : decode cX4_sign 26 = .ok (.ireturn, 1) := by decide +kernel
theorem dX4_parseChoice_0 : decode cX4_parseChoice 0 = .ok (.aload_n 0, 1) := by decide +kernel
theorem dX4_parseChoice_1 : decode cX4_parseChoice 1 = .ok (.invokevirtual 60, 3) := by decide +kernel
theorem dX4_parseChoice_4 : decode cX4_parseChoice 4 = .ok (.istore_n 1, 1) := by decide +kernel
theorem dX4_parseChoice_5 : decode cX4_parseChoice 5 = .ok (.aload_n 0, 1) := by decide +kernel
theorem dX4_parseChoice_6 : decode cX4_parseChoice 6 = .ok (.invokevirtual 63, 3) := by decide +kernel
theorem dX4_parseChoice_9 : decode cX4_parseChoice 9 = .ok (.aload_n 0, 1) := by decide +kernel
theorem dX4_parseChoice_10 : decode cX4_parseChoice 10 = .ok (.invokevirtual 60, 3) := by decide +kernel
theorem dX4_parseChoice_13 : decode cX4_parseChoice 13 = .ok (.istore_n 2, 1) := by decide +kernel
theorem dX4_parseChoice_14 : decode cX4_parseChoice 14 = .ok (.aload_n 0, 1) := by decide +kernel
theorem dX4_parseChoice_15 : decode cX4_parseChoice 15 = .ok (.bipush 43, 2) := by decide +kernel
theorem dX4_parseChoice_17 : decode cX4_parseChoice 17 = .ok (.invokevirtual 66, 3) := by decide +kernel
theorem dX4_parseChoice_20 : decode cX4_parseChoice 20 = .ok (.istore_n 3, 1) := by decide +kernel
theorem dX4_parseChoice_21 : decode cX4_parseChoice 21 = .ok (.aload_n 0, 1) := by decide +kernel
theorem dX4_parseChoice_22 : decode cX4_parseChoice 22 = .ok (.bipush 45, 2) := by decide +kernel
theorem dX4_parseChoice_24 : decode cX4_parseChoice 24 = .ok (.invokevirtual 66, 3) := by decide +kernel
theorem dX4_parseChoice_27 : decode cX4_parseChoice 27 = .ok (.istore 4, 2) := by decide +kernel
theorem dX4_parseChoice_29 : decode cX4_parseChoice 29 = .ok (.aload_n 0, 1) := by decide +kernel
theorem dX4_parseChoice_30 : decode cX4_parseChoice 30 = .ok (.getfield 27, 3) := by decide +kernel
theorem dX4_parseChoice_33 : decode cX4_parseChoice 33 = .ok (.ifCond .eq 62, 3) := by decide +kernel
theorem dX4_parseChoice_36 : decode cX4_parseChoice 36 = .ok (.aload_n 0, 1) := by decide +kernel
theorem dX4_parseChoice_37 : decode cX4_parseChoice 37 = .ok (.getfield 34, 3) := by decide +kernel
theorem dX4_parseChoice_40 : decode cX4_parseChoice 40 = .ok (.aload_n 0, 1) := by decide +kernel
theorem dX4_parseChoice_41 : decode cX4_parseChoice 41 = .ok (.getfield 31, 3) := by decide +kernel
theorem dX4_parseChoice_44 : decode cX4_parseChoice 44 = .ok (.iload_n 1, 1) := by decide +kernel
theorem dX4_parseChoice_45 : decode cX4_parseChoice 45 = .ok (.invokevirtual 46, 3) := by decide +kernel
theorem dX4_parseChoice_48 : decode cX4_parseChoice 48 = .ok (.aload_n 0, 1) := by decide +kernel
theorem dX4_parseChoice_49 : decode cX4_parseChoice 49 = .ok (.getfield 37, 3) := by decide +kernel
theorem dX4_parseChoice_52 : decode cX4_parseChoice 52 = .ok (.aload_n 0, 1) := by decide +kernel
theorem dX4_parseChoice_53 : decode cX4_parseChoice 53 = .ok (.getfield 31, 3) := by decide +kernel
theorem dX4_parseChoice_56 : decode cX4_parseChoice 56 = .ok (.iload_n 2, 1) := by decide +kernel
theorem dX4_parseChoice_57 : decode cX4_parseChoice 57 = .ok (.invokevirtual 46, 3) := by decide +kernel
theorem dX4_parseChoice_60 : decode cX4_parseChoice 60 = .ok (.aload_n 0, 1) := by decide +kernel
theorem dX4_parseChoice_61 : decode cX4_parseChoice 61 = .ok (.getfield 40, 3) := by decide +kernel
theorem dX4_parseChoice_64 : decode cX4_parseChoice 64 = .ok (.aload_n 0, 1) := by decide +kernel
theorem dX4_parseChoice_65 : decode cX4_parseChoice 65 = .ok (.getfield 31, 3) := by decide +kernel
theorem dX4_parseChoice_68 : decode cX4_parseChoice 68 = .ok (.iload_n 3, 1) := by decide +kernel
theorem dX4_parseChoice_69 : decode cX4_parseChoice 69 = .ok (.invokevirtual 46, 3) := by decide +kernel
theorem dX4_parseChoice_72 : decode cX4_parseChoice 72 = .ok (.aload_n 0, 1) := by decide +kernel
theorem dX4_parseChoice_73 : decode cX4_parseChoice 73 = .ok (.getfield 43, 3) := by decide +kernel
theorem dX4_parseChoice_76 : decode cX4_parseChoice 76 = .ok (.aload_n 0, 1) := by decide +kernel
theorem dX4_parseChoice_77 : decode cX4_parseChoice 77 = .ok (.getfield 31, 3) := by decide +kernel
theorem dX4_parseChoice_80 : decode cX4_parseChoice 80 = .ok (.iload 4, 2) := by decide +kernel
theorem dX4_parseChoice_82 : decode cX4_parseChoice 82 = .ok (.invokevirtual 46, 3) := by decide +kernel
theorem dX4_parseChoice_85 : decode cX4_parseChoice 85 = .ok (.aload_n 0, 1) := by decide +kernel
theorem dX4_parseChoice_86 : decode cX4_parseChoice 86 = .ok (.aload_n 0, 1) := by decide +kernel
theorem dX4_parseChoice_87 : decode cX4_parseChoice 87 = .ok (.getfield 31, 3) := by decide +kernel
theorem dX4_parseChoice_90 : decode cX4_parseChoice 90 = .ok (.iconst 1, 1) := by decide +kernel
theorem dX4_parseChoice_91 : decode cX4_parseChoice 91 = .ok (.iadd, 1) := by decide +kernel
theorem dX4_parseChoice_92 : decode cX4_parseChoice 92 = .ok (.putfield 31, 3) := by decide +kernel
theorem dX4_parseChoice_95 : decode cX4_parseChoice 95 = .ok (.return_, 1) := by decide +kernel
theorem dX4_parseNumber_0 : decode cX4_parseNumber 0 = .ok (.aload_n 0, 1) := by decide +kernel
theorem dX4_parseNumber_1 : decode cX4_parseNumber 1 = .ok (.getfield 27, 3) := by decide +kernel
theorem dX4_parseNumber_4 : decode cX4_parseNumber 4 = .ok (.ifCond .eq 13, 3) := by decide +kernel
theorem dX4_parseNumber_7 : decode cX4_parseNumber 7 = .ok (.aload_n 0, 1) := by decide +kernel
theorem dX4_parseNumber_8 : decode cX4_parseNumber 8 = .ok (.invokevirtual 53, 3) := by decide +kernel
theorem dX4_parseNumber_11 : decode cX4_parseNumber 11 = .ok (.invokestatic 70, 3) := by decide +kernel
theorem dX4_parseNumber_14 : decode cX4_parseNumber 14 = .ok (.ifCond .ne 10, 3) := by decide +kernel
theorem dX4_parseNumber_17 : decode cX4_parseNumber 17 = .ok (.aload_n 0, 1) := by decide +kernel
theorem dX4_parseNumber_18 : decode cX4_parseNumber 18 = .ok (.iconst 0, 1) := by decide +kernel
theorem dX4_parseNumber_19 : decode cX4_parseNumber 19 = .ok (.putfield 27, 3) := by decide +kernel
theorem dX4_parseNumber_22 : decode cX4_parseNumber 22 = .ok (.iconst 0, 1) := by decide +kernel
theorem dX4_parseNumber_23 : decode cX4_parseNumber 23 = .ok (.ireturn, 1) := by decide +kernel
theorem dX4_parseNumber_24 : decode cX4_parseNumber 24 = .ok (.aload_n 0, 1) := by decide +kernel
theorem dX4_parseNumber_25 : decode cX4_parseNumber 25 = .ok (.invokevirtual 53, 3) := by decide +kernel
theorem dX4_parseNumber_28 : decode cX4_parseNumber 28 = .ok (.bipush 48, 2) := by decide +kernel
theorem dX4_parseNumber_30 : decode cX4_parseNumber 30 = .ok (.isub, 1) := by decide +kernel
theorem dX4_parseNumber_31 : decode cX4_parseNumber 31 = .ok (.istore_n 1, 1) := by decide +kernel
theorem dX4_parseNumber_32 : decode cX4_parseNumber 32 = .ok (.aload_n 0, 1) := by decide +kernel
theorem dX4_parseNumber_33 : decode cX4_parseNumber 33 = .ok (.aload_n 0, 1) := by decide +kernel
theorem dX4_parseNumber_34 : decode cX4_parseNumber 34 = .ok (.getfield 24, 3) := by decide +kernel
theorem dX4_parseNumber_37 : decode cX4_parseNumber 37 = .ok (.iconst 1, 1) := by decide +kernel
theorem dX4_parseNumber_38 : decode cX4_parseNumber 38 = .ok (.iadd, 1) := by decide +kernel
theorem dX4_parseNumber_39 : decode cX4_parseNumber 39 = .ok (.putfield 24, 3) := by decide +kernel
theorem dX4_parseNumber_42 : decode cX4_parseNumber 42 = .ok (.iload_n 1, 1) := by decide +kernel
theorem dX4_parseNumber_43 : decode cX4_parseNumber 43 = .ok (.ifCond .eq 13, 3) := by decide +kernel
theorem dX4_parseNumber_46 : decode cX4_parseNumber 46 = .ok (.aload_n 0, 1) := by decide +kernel
theorem dX4_parseNumber_47 : decode cX4_parseNumber 47 = .ok (.invokevirtual 53, 3) := by decide +kernel
theorem dX4_parseNumber_50 : decode cX4_parseNumber 50 = .ok (.invokestatic 70, 3) := by decide +kernel
theorem dX4_parseNumber_53 : decode cX4_parseNumber 53 = .ok (.ifCond .ne 5, 3) := by decide +kernel
theorem dX4_parseNumber_56 : decode cX4_parseNumber 56 = .ok (.iload_n 1, 1) := by decide +kernel
theorem dX4_parseNumber_57 : decode cX4_parseNumber 57 = .ok (.ireturn, 1) := by decide +kernel
theorem dX4_parseNumber_58 : decode cX4_parseNumber 58 = .ok (.iload_n 1, 1) := by decide +kernel
theorem dX4_parseNumber_59 : decode cX4_parseNumber 59 = .ok (.bipush 10, 2) := by decide +kernel
theorem dX4_parseNumber_61 : decode cX4_parseNumber 61 = .ok (.imul, 1) := by decide +kernel
theorem dX4_parseNumber_62 : decode cX4_parseNumber 62 = .ok (.aload_n 0, 1) := by decide +kernel
theorem dX4_parseNumber_63 : decode cX4_parseNumber 63 = .ok (.invokevirtual 53, 3) := by decide +kernel
theorem dX4_parseNumber_66 : decode cX4_parseNumber 66 = .ok (.iadd, 1) := by decide +kernel
theorem dX4_parseNumber_67 : decode cX4_parseNumber 67 = .ok (.bipush 48, 2) := by decide +kernel
theorem dX4_parseNumber_69 : decode cX4_parseNumber 69 = .ok (.isub, 1) := by decide +kernel
theorem dX4_parseNumber_70 : decode cX4_parseNumber 70 = .ok (.istore_n 2, 1) := by decide +kernel
theorem dX4_parseNumber_71 : decode cX4_parseNumber 71 = .ok (.iload_n 2, 1) := by decide +kernel
theorem dX4_parseNumber_72 : decode cX4_parseNumber 72 = .ok (.bipush 32, 2) := by decide +kernel
theorem dX4_parseNumber_74 : decode cX4_parseNumber 74 = .ok (.if_icmp .lt 5, 3) := by decide +kernel
theorem dX4_parseNumber_77 : decode cX4_parseNumber 77 = .ok (.iload_n 1, 1) := by decide +kernel
theorem dX4_parseNumber_78 : decode cX4_parseNumber 78 = .ok (.ireturn, 1) := by decide +kernel
theorem dX4_parseNumber_79 : decode cX4_parseNumber 79 = .ok (.aload_n 0, 1) := by decide +kernel
theorem dX4_parseNumber_80 : decode cX4_parseNumber 80 = .ok (.aload_n 0, 1) := by decide +kernel
theorem dX4_parseNumber_81 : decode cX4_parseNumber 81 = .ok (.getfield 24, 3) := by decide +kernel
theorem dX4_parseNumber_84 : decode cX4_parseNumber 84 = .ok (.iconst 1, 1) := by decide +kernel
theorem dX4_parseNumber_85 : decode cX4_parseNumber 85 = .ok (.iadd, 1) := by decide +kernel
theorem dX4_parseNumber_86 : decode cX4_parseNumber 86 = .ok (.putfield 24, 3) := by decide +kernel
theorem dX4_parseNumber_89 : decode cX4_parseNumber 89 = .ok (.iload_n 2, 1) := by decide +kernel
theorem dX4_parseNumber_90 : decode cX4_parseNumber 90 = .ok (.ireturn, 1) := by decide +kernel
theorem dX4_parseArrow_0 : decode cX4_parseArrow 0 = .ok (.aload_n 0, 1) := by decide +kernel
theorem dX4_parseArrow_1 : decode cX4_parseArrow 1 = .ok (.getfield 27, 3) := by decide +kernel
theorem dX4_parseArrow_4 : decode cX4_parseArrow 4 = .ok (.ifCond .eq 12, 3) := by decide +kernel
theorem dX4_parseArrow_7 : decode cX4_parseArrow 7 = .ok (.aload_n 0, 1) := by decide +kernel
theorem dX4_parseArrow_8 : decode cX4_parseArrow 8 = .ok (.invokevirtual 53, 3) := by decide +kernel
theorem dX4_parseArrow_11 : decode cX4_parseArrow 11 = .ok (.bipush 62, 2) := by decide +kernel
theorem dX4_parseArrow_13 : decode cX4_parseArrow 13 = .ok (.if_icmp .eq 9, 3) := by decide +kernel
theorem dX4_parseArrow_16 : decode cX4_parseArrow 16 = .ok (.aload_n 0, 1) := by decide +kernel
theorem dX4_parseArrow_17 : decode cX4_parseArrow 17 = .ok (.iconst 0, 1) := by decide +kernel
theorem dX4_parseArrow_18 : decode cX4_parseArrow 18 = .ok (.putfield 27, 3) := by decide +kernel
theorem dX4_parseArrow_21 : decode cX4_parseArrow 21 = .ok (.return_, 1) := by decide +kernel
theorem dX4_parseArrow_22 : decode cX4_parseArrow 22 = .ok (.aload_n 0, 1) := by decide +kernel
theorem dX4_parseArrow_23 : decode cX4_parseArrow 23 = .ok (.aload_n 0, 1) := by decide +kernel
theorem dX4_parseArrow_24 : decode cX4_parseArrow 24 = .ok (.getfield 24, 3) := by decide +kernel
theorem dX4_parseArrow_27 : decode cX4_parseArrow 27 = .ok (.iconst 1, 1) := by decide +kernel
theorem dX4_parseArrow_28 : decode cX4_parseArrow 28 = .ok (.iadd, 1) := by decide +kernel
theorem dX4_parseArrow_29 : decode cX4_parseArrow 29 = .ok (.putfield 24, 3) := by decide +kernel
theorem dX4_parseArrow_32 : decode cX4_parseArrow 32 = .ok (.return_, 1) := by decide +kernel
theorem dX4_parseFlags_0 : decode cX4_parseFlags 0 = .ok (.aload_n 0, 1) := by decide +kernel
theorem dX4_parseFlags_1 : decode cX4_parseFlags 1 = .ok (.getfield 27, 3) := by decide +kernel
theorem dX4_parseFlags_4 : decode cX4_parseFlags 4 = .ok (.ifCond .eq 11, 3) := by decide +kernel
theorem dX4_parseFlags_7 : decode cX4_parseFlags 7 = .ok (.aload_n 0, 1) := by decide +kernel
theorem dX4_parseFlags_8 : decode cX4_parseFlags 8 = .ok (.invokevirtual 53, 3) := by decide +kernel
theorem dX4_parseFlags_11 : decode cX4_parseFlags 11 = .ok (.iload_n 1, 1) := by decide +kernel
theorem dX4_parseFlags_12 : decode cX4_parseFlags 12 = .ok (.if_icmp .eq 5, 3) := by decide +kernel
theorem dX4_parseFlags_15 : decode cX4_parseFlags 15 = .ok (.iconst 0, 1) := by decide +kernel
theorem dX4_parseFlags_16 : decode cX4_parseFlags 16 = .ok (.ireturn, 1) := by decide +kernel
theorem dX4_parseFlags_17 : decode cX4_parseFlags 17 = .ok (.aload_n 0, 1) := by decide +kernel
theorem dX4_parseFlags_18 : decode cX4_parseFlags 18 = .ok (.aload_n 0, 1) := by decide +kernel
theorem dX4_parseFlags_19 : decode cX4_parseFlags 19 = .ok (.getfield 24, 3) := by decide +kernel
theorem dX4_parseFlags_22 : decode cX4_parseFlags 22 = .ok (.iconst 1, 1) := by decide +kernel
theorem dX4_parseFlags_23 : decode cX4_parseFlags 23 = .ok (.iadd, 1) := by decide +kernel
theorem dX4_parseFlags_24 : decode cX4_parseFlags 24 = .ok (.putfield 24, 3) := by decide +kernel
theorem dX4_parseFlags_27 : decode cX4_parseFlags 27 = .ok (.iconst 0, 1) := by decide +kernel
theorem dX4_parseFlags_28 : decode cX4_parseFlags 28 = .ok (.istore_n 2, 1) := by decide +kernel
theorem dX4_parseFlags_29 : decode cX4_parseFlags 29 = .ok (.iconst 0, 1) := by decide +kernel
theorem dX4_parseFlags_30 : decode cX4_parseFlags 30 = .ok (.istore_n 3, 1) := by decide +kernel
theorem dX4_parseFlags_31 : decode cX4_parseFlags 31 = .ok (.iload_n 3, 1) := by decide +kernel
theorem dX4_parseFlags_32 : decode cX4_parseFlags 32 = .ok (.iconst 5, 1) := by decide +kernel
theorem dX4_parseFlags_33 : decode cX4_parseFlags 33 = .ok (.if_icmp .ge 36, 3) := by decide +kernel
theorem dX4_parseFlags_36 : decode cX4_parseFlags 36 = .ok (.aload_n 0, 1) := by decide +kernel
theorem dX4_parseFlags_37 : decode cX4_parseFlags 37 = .ok (.invokevirtual 53, 3) := by decide +kernel
theorem dX4_parseFlags_40 : decode cX4_parseFlags 40 = .ok (.bipush 97, 2) := by decide +kernel
theorem dX4_parseFlags_42 : decode cX4_parseFlags 42 = .ok (.iload_n 3, 1) := by decide +kernel
theorem dX4_parseFlags_43 : decode cX4_parseFlags 43 = .ok (.iadd, 1) := by decide +kernel
theorem dX4_parseFlags_44 : decode cX4_parseFlags 44 = .ok (.if_icmp .ne 19, 3) := by decide +kernel
theorem dX4_parseFlags_47 : decode cX4_parseFlags 47 = .ok (.iload_n 2, 1) := by decide +kernel
theorem dX4_parseFlags_48 : decode cX4_parseFlags 48 = .ok (.iconst 1, 1) := by decide +kernel
theorem dX4_parseFlags_49 : decode cX4_parseFlags 49 = .ok (.iload_n 3, 1) := by decide +kernel
theorem dX4_parseFlags_50 : decode cX4_parseFlags 50 = .ok (.ishl, 1) := by decide +kernel
theorem dX4_parseFlags_51 : decode cX4_parseFlags 51 = .ok (.ior, 1) := by decide +kernel
theorem dX4_parseFlags_52 : decode cX4_parseFlags 52 = .ok (.istore_n 2, 1) := by decide +kernel
theorem dX4_parseFlags_53 : decode cX4_parseFlags 53 = .ok (.aload_n 0, 1) := by decide +kernel
theorem dX4_parseFlags_54 : decode cX4_parseFlags 54 = .ok (.aload_n 0, 1) := by decide +kernel
theorem dX4_parseFlags_55 : decode cX4_parseFlags 55 = .ok (.getfield 24, 3) := by decide +kernel
theorem dX4_parseFlags_58 : decode cX4_parseFlags 58 = .ok (.iconst 1, 1) := by decide +kernel
theorem dX4_parseFlags_59 : decode cX4_parseFlags 59 = .ok (.iadd, 1) := by decide +kernel
theorem dX4_parseFlags_60 : decode cX4_parseFlags 60 = .ok (.putfield 24, 3) := by decide +kernel
theorem dX4_parseFlags_63 : decode cX4_parseFlags 63 = .ok (.iinc 3 1, 3) := by decide +kernel
theorem dX4_parseFlags_66 : decode cX4_parseFlags 66 = .ok (.goto (-35), 3) := by decide +kernel
theorem dX4_parseFlags_69 : decode cX4_parseFlags 69 = .ok (.aload_n 0, 1) := by decide +kernel
theorem dX4_parseFlags_70 : decode cX4_parseFlags 70 = .ok (.iload_n 2, 1) := by decide +kernel
theorem dX4_parseFlags_71 : decode cX4_parseFlags 71 = .ok (.ifCond .eq 7, 3) := by decide +kernel
theorem dX4_parseFlags_74 : decode cX4_parseFlags 74 = .ok (.iconst 1, 1) := by decide +kernel
theorem dX4_parseFlags_75 : decode cX4_parseFlags 75 = .ok (.goto 4, 3) := by decide +kernel
theorem dX4_parseFlags_78 : decode cX4_parseFlags 78 = .ok (.iconst 0, 1) := by decide +kernel
theorem dX4_parseFlags_79 : decode cX4_parseFlags 79 = .ok (.putfield 27, 3) := by decide +kernel
theorem dX4_parseFlags_82 : decode cX4_parseFlags 82 = .ok (.iload_n 2, 1) := by decide +kernel
theorem dX4_parseFlags_83 : decode cX4_parseFlags 83 = .ok (.ireturn, 1) := by decide +kernel
theorem dX4_isDigit_0 : decode cX4_isDigit 0 = .ok (.iload_n 0, 1) := by decide +kernel
theorem dX4_isDigit_1 : decode cX4_isDigit 1 = .ok (.bipush 48, 2) := by decide +kernel
theorem dX4_isDigit_3 : decode cX4_isDigit 3 = .ok (.if_icmp .lt 13, 3) := by decide +kernel
theorem dX4_isDigit_6 : decode cX4_isDigit 6 = .ok (.iload_n 0, 1) := by decide +kernel
theorem dX4_isDigit_7 : decode cX4_isDigit 7 = .ok (.bipush 57, 2) := by decide +kernel
theorem dX4_isDigit_9 : decode cX4_isDigit 9 = .ok (.if_icmp .gt 7, 3) := by decide +kernel
theorem dX4_isDigit_12 : decode cX4_isDigit 12 = .ok (.iconst 1, 1) := by decide +kernel
theorem dX4_isDigit_13 : decode cX4_isDigit 13 = .ok (.goto 4, 3) := by decide +kernel
theorem dX4_isDigit_16 : decode cX4_isDigit 16 = .ok (.iconst 0, 1) := by decide +kernel
theorem dX4_isDigit_17 : decode cX4_isDigit 17 = .ok (.ireturn, 1) := by decide +kernel
theorem dX5_init_0 : decode cX5_init 0 = .ok (.aload_n 0, 1) := by decide +kernel
theorem dX5_init_1 : decode cX5_init 1 = .ok (.invokespecial 3, 3) := by decide +kernel
theorem dX5_init_4 : decode cX5_init 4 = .ok (.aload_n 0, 1) := by decide +kernel
theorem dX5_init_5 : decode cX5_init 5 = .ok (.new 9, 3) := by decide +kernel
theorem dX5_init_8 : decode cX5_init 8 = .ok (.dup, 1) := by decide +kernel
theorem dX5_init_9 : decode cX5_init 9 = .ok (.invokespecial 11, 3) := by decide +kernel
theorem dX5_init_12 : decode cX5_init 12 = .ok (.putfield 12, 3) := by decide +kernel
theorem dX5_init_15 : decode cX5_init 15 = .ok (.aload_n 0, 1) := by decide +kernel
theorem dX5_init_16 : decode cX5_init 16 = .ok (.new 9, 3) := by decide +kernel
theorem dX5_init_19 : decode cX5_init 19 = .ok (.dup, 1) := by decide +kernel
theorem dX5_init_20 : decode cX5_init 20 = .ok (.invokespecial 11, 3) := by decide +kernel
theorem dX5_init_23 : decode cX5_init 23 = .ok (.putfield 16, 3) := by decide +kernel
theorem dX5_init_26 : decode cX5_init 26 = .ok (.aload_n 0, 1) := by decide +kernel
theorem dX5_init_27 : decode cX5_init 27 = .ok (.new 9, 3) := by decide +kernel
theorem dX5_init_30 : decode cX5_init 30 = .ok (.dup, 1) := by decide +kernel
theorem dX5_init_31 : decode cX5_init 31 = .ok (.invokespecial 11, 3) := by decide +kernel
theorem dX5_init_34 : decode cX5_init 34 = .ok (.putfield 19, 3) := by decide +kernel
theorem dX5_init_37 : decode cX5_init 37 = .ok (.aload_n 0, 1) := by decide +kernel
theorem dX5_init_38 : decode cX5_init 38 = .ok (.iconst 0, 1) := by decide +kernel
theorem dX5_init_39 : decode cX5_init 39 = .ok (.putfield 22, 3) := by decide +kernel
theorem dX5_init_42 : decode cX5_init 42 = .ok (.aload_n 0, 1) := by decide +kernel
theorem dX5_init_43 : decode cX5_init 43 = .ok (.new 26, 3) := by decide +kernel
theorem dX5_init_46 : decode cX5_init 46 = .ok (.dup, 1) := by decide +kernel
theorem dX5_init_47 : decode cX5_init 47 = .ok (.invokespecial 28, 3) := by decide +kernel
theorem dX5_init_50 : decode cX5_init 50 = .ok (.putfield 29, 3) := by decide +kernel
theorem dX5_init_53 : decode cX5_init 53 = .ok (.aload_n 0, 1) := by decide +kernel
theorem dX5_init_54 : decode cX5_init 54 = .ok (.new 33, 3) := by decide +kernel
theorem dX5_init_57 : decode cX5_init 57 = .ok (.dup, 1) := by decide +kernel
theorem dX5_init_58 : decode cX5_init 58 = .ok (.invokespecial 35, 3) := by decide +kernel
theorem dX5_init_61 : decode cX5_init 61 = .ok (.putfield 36, 3) := by decide +kernel
theorem dX5_init_64 : decode cX5_init 64 = .ok (.aload_n 0, 1) := by decide +kernel
theorem dX5_init_65 : decode cX5_init 65 = .ok (.new 40, 3) := by decide +kernel
theorem dX5_init_68 : decode cX5_init 68 = .ok (.dup, 1) := by decide +kernel
theorem dX5_init_69 : decode cX5_init 69 = .ok (.invokespecial 42, 3) := by decide +kernel
theorem dX5_init_72 : decode cX5_init 72 = .ok (.putfield 43, 3) := by decide +kernel
theorem dX5_init_75 : decode cX5_init 75 = .ok (.return_, 1) := by decide +kernel
theorem dX5_addPage_0 : decode cX5_addPage 0 = .ok (.iload_n 1, 1) := by decide +kernel
theorem dX5_addPage_1 : decode cX5_addPage 1 = .ok (.invokestatic 47, 3) := by decide +kernel
theorem dX5_addPage_4 : decode cX5_addPage 4 = .ok (.ifCond .eq 17, 3) := by decide +kernel
theorem dX5_addPage_7 : decode cX5_addPage 7 = .ok (.iload_n 2, 1) := by decide +kernel
theorem dX5_addPage_8 : decode cX5_addPage 8 = .ok (.invokestatic 51, 3) := by decide +kernel
theorem dX5_addPage_11 : decode cX5_addPage 11 = .ok (.ifCond .eq 10, 3) := by decide +kernel
theorem dX5_addPage_14 : decode cX5_addPage 14 = .ok (.iload_n 3, 1) := by decide +kernel
theorem dX5_addPage_15 : decode cX5_addPage 15 = .ok (.invokestatic 51, 3) := by decide +kernel
theorem dX5_addPage_18 : decode cX5_addPage 18 = .ok (.ifCond .ne 6, 3) := by decide +kernel
theorem dX5_addPage_21 : decode cX5_addPage 21 = .ok (.bipush (-2), 2) := by decide +kernel
theorem dX5_addPage_23 : decode cX5_addPage 23 = .ok (.ireturn, 1) := by decide +kernel
theorem dX5_addPage_24 : decode cX5_addPage 24 = .ok (.aload_n 0, 1) := by decide +kernel
theorem dX5_addPage_25 : decode cX5_addPage 25 = .ok (.getfield 12, 3) := by decide +kernel
theorem dX5_addPage_28 : decode cX5_addPage 28 = .ok (.getfield 54, 3) := by decide +kernel
theorem dX5_addPage_31 : decode cX5_addPage 31 = .ok (.bipush 32, 2) := by decide +kernel
theorem dX5_addPage_33 : decode cX5_addPage 33 = .ok (.if_icmp .lt 6, 3) := by decide +kernel
theorem dX5_addPage_36 : decode cX5_addPage 36 = .ok (.bipush (-3), 2) := by decide +kernel
theorem dX5_addPage_38 : decode cX5_addPage 38 = .ok (.ireturn, 1) := by decide +kernel
theorem dX5_addPage_39 : decode cX5_addPage 39 = .ok (.aload_n 0, 1) := by decide +kernel
theorem dX5_addPage_40 : decode cX5_addPage 40 = .ok (.invokevirtual 58, 3) := by decide +kernel
theorem dX5_addPage_43 : decode cX5_addPage 43 = .ok (.aload_n 0, 1) := by decide +kernel
theorem dX5_addPage_44 : decode cX5_addPage 44 = .ok (.getfield 12, 3) := by decide +kernel
theorem dX5_addPage_47 : decode cX5_addPage 47 = .ok (.iload_n 1, 1) := by decide +kernel
theorem dX5_addPage_48 : decode cX5_addPage 48 = .ok (.iload_n 2, 1) := by decide +kernel
theorem dX5_addPage_49 : decode cX5_addPage 49 = .ok (.iload_n 3, 1) := by decide +kernel
theorem dX5_addPage_50 : decode cX5_addPage 50 = .ok (.invokevirtual 61, 3) := by decide +kernel
theorem dX5_addPage_53 : decode cX5_addPage 53 = .ok (.ireturn, 1) := by decide +kernel
theorem dX5_setMood_0 : decode cX5_setMood 0 = .ok (.aload_n 0, 1) := by decide +kernel
theorem dX5_setMood_1 : decode cX5_setMood 1 = .ok (.getfield 12, 3) := by decide +kernel
theorem dX5_setMood_4 : decode cX5_setMood 4 = .ok (.iload_n 1, 1) := by decide +kernel
theorem dX5_setMood_5 : decode cX5_setMood 5 = .ok (.invokevirtual 65, 3) := by decide +kernel
theorem dX5_setMood_8 : decode cX5_setMood 8 = .ok (.ifCond .ne 5, 3) := by decide +kernel
theorem dX5_setMood_11 : decode cX5_setMood 11 = .ok (.iconst (-1), 1) := by decide +kernel
theorem dX5_setMood_12 : decode cX5_setMood 12 = .ok (.ireturn, 1) := by decide +kernel
theorem dX5_setMood_13 : decode cX5_setMood 13 = .ok (.iload_n 2, 1) := by decide +kernel
theorem dX5_setMood_14 : decode cX5_setMood 14 = .ok (.invokestatic 47, 3) := by decide +kernel
theorem dX5_setMood_17 : decode cX5_setMood 17 = .ok (.ifCond .ne 6, 3) := by decide +kernel
theorem dX5_setMood_20 : decode cX5_setMood 20 = .ok (.bipush (-2), 2) := by decide +kernel
theorem dX5_setMood_22 : decode cX5_setMood 22 = .ok (.ireturn, 1) := by decide +kernel
theorem dX5_setMood_23 : decode cX5_setMood 23 = .ok (.aload_n 0, 1) := by decide +kernel
theorem dX5_setMood_24 : decode cX5_setMood 24 = .ok (.getfield 12, 3) := by decide +kernel
theorem dX5_setMood_27 : decode cX5_setMood 27 = .ok (.getfield 68, 3) := by decide +kernel
theorem dX5_setMood_30 : decode cX5_setMood 30 = .ok (.iload_n 1, 1) := by decide +kernel
theorem dX5_setMood_31 : decode cX5_setMood 31 = .ok (.invokevirtual 72, 3) := by decide +kernel
theorem dX5_setMood_34 : decode cX5_setMood 34 = .ok (.iload_n 2, 1) := by decide +kernel
theorem dX5_setMood_35 : decode cX5_setMood 35 = .ok (.if_icmp .ne 6, 3) := by decide +kernel
theorem dX5_setMood_38 : decode cX5_setMood 38 = .ok (.bipush (-5), 2) := by decide +kernel
theorem dX5_setMood_40 : decode cX5_setMood 40 = .ok (.ireturn, 1) := by decide +kernel
theorem dX5_setMood_41 : decode cX5_setMood 41 = .ok (.aload_n 0, 1) := by decide +kernel
theorem dX5_setMood_42 : decode cX5_setMood 42 = .ok (.invokevirtual 58, 3) := by decide +kernel
theorem dX5_setMood_45 : decode cX5_setMood 45 = .ok (.aload_n 0, 1) := by decide +kernel
theorem dX5_setMood_46 : decode cX5_setMood 46 = .ok (.getfield 12, 3) := by decide +kernel
theorem dX5_setMood_49 : decode cX5_setMood 49 = .ok (.getfield 68, 3) := by decide +kernel
theorem dX5_setMood_52 : decode cX5_setMood 52 = .ok (.iload_n 1, 1) := by decide +kernel
theorem dX5_setMood_53 : decode cX5_setMood 53 = .ok (.iload_n 2, 1) := by decide +kernel
theorem dX5_setMood_54 : decode cX5_setMood 54 = .ok (.invokevirtual 78, 3) := by decide +kernel
theorem dX5_setMood_57 : decode cX5_setMood 57 = .ok (.aload_n 0, 1) := by decide +kernel
theorem dX5_setMood_58 : decode cX5_setMood 58 = .ok (.getfield 12, 3) := by decide +kernel
theorem dX5_setMood_61 : decode cX5_setMood 61 = .ok (.getfield 82, 3) := by decide +kernel
theorem dX5_setMood_64 : decode cX5_setMood 64 = .ok (.iload_n 1, 1) := by decide +kernel
theorem dX5_setMood_65 : decode cX5_setMood 65 = .ok (.invokevirtual 72, 3) := by decide +kernel
theorem dX5_setMood_68 : decode cX5_setMood 68 = .ok (.ireturn, 1) := by decide +kernel
theorem dX5_addChoice_0 : decode cX5_addChoice 0 = .ok (.aload_n 0, 1) := by decide +kernel
theorem dX5_addChoice_1 : decode cX5_addChoice 1 = .ok (.getfield 12, 3) := by decide +kernel
theorem dX5_addChoice_4 : decode cX5_addChoice 4 = .ok (.iload_n 1, 1) := by decide +kernel
theorem dX5_addChoice_5 : decode cX5_addChoice 5 = .ok (.iload_n 2, 1) := by decide +kernel
theorem dX5_addChoice_6 : decode cX5_addChoice 6 = .ok (.iload_n 3, 1) := by decide +kernel
theorem dX5_addChoice_7 : decode cX5_addChoice 7 = .ok (.iload 4, 2) := by decide +kernel
theorem dX5_addChoice_9 : decode cX5_addChoice 9 = .ok (.invokevirtual 85, 3) := by decide +kernel
theorem dX5_addChoice_12 : decode cX5_addChoice 12 = .ok (.istore 5, 2) := by decide +kernel
theorem dX5_addChoice_14 : decode cX5_addChoice 14 = .ok (.iload 5, 2) := by decide +kernel
theorem dX5_addChoice_16 : decode cX5_addChoice 16 = .ok (.ifCond .eq 6, 3) := by decide +kernel
theorem dX5_addChoice_19 : decode cX5_addChoice 19 = .ok (.iload 5, 2) := by decide +kernel
theorem dX5_addChoice_21 : decode cX5_addChoice 21 = .ok (.ireturn, 1) := by decide +kernel
theorem dX5_addChoice_22 : decode cX5_addChoice 22 = .ok (.aload_n 0, 1) := by decide +kernel
theorem dX5_addChoice_23 : decode cX5_addChoice 23 = .ok (.invokevirtual 58, 3) := by decide +kernel
theorem dX5_addChoice_26 : decode cX5_addChoice 26 = .ok (.aload_n 0, 1) := by decide +kernel
theorem dX5_addChoice_27 : decode cX5_addChoice 27 = .ok (.getfield 12, 3) := by decide +kernel
theorem dX5_addChoice_30 : decode cX5_addChoice 30 = .ok (.iload_n 1, 1) := by decide +kernel
theorem dX5_addChoice_31 : decode cX5_addChoice 31 = .ok (.iload_n 2, 1) := by decide +kernel
theorem dX5_addChoice_32 : decode cX5_addChoice 32 = .ok (.iload_n 3, 1) := by decide +kernel
theorem dX5_addChoice_33 : decode cX5_addChoice 33 = .ok (.iload 4, 2) := by decide +kernel
theorem dX5_addChoice_35 : decode cX5_addChoice 35 = .ok (.invokevirtual 89, 3) := by decide +kernel
theorem dX5_addChoice_38 : decode cX5_addChoice 38 = .ok (.ireturn, 1) := by decide +kernel
theorem dX5_addChoices_0 : decode cX5_addChoices 0 = .ok (.aload_n 0, 1) := by decide +kernel
theorem dX5_addChoices_1 : decode cX5_addChoices 1 = .ok (.getfield 36, 3) := by decide +kernel
theorem dX5_addChoices_4 : decode cX5_addChoices 4 = .ok (.invokevirtual 92, 3) := by decide +kernel
theorem dX5_addChoices_7 : decode cX5_addChoices 7 = .ok (.ifCond .ne 14, 3) := by decide +kernel
theorem dX5_addChoices_10 : decode cX5_addChoices 10 = .ok (.bipush (-100), 2) := by decide +kernel
theorem dX5_addChoices_12 : decode cX5_addChoices 12 = .ok (.aload_n 0, 1) := by decide +kernel
theorem dX5_addChoices_13 : decode cX5_addChoices 13 = .ok (.getfield 36, 3) := by decide +kernel
theorem dX5_addChoices_16 : decode cX5_addChoices 16 = .ok (.getfield 96, 3) := by decide +kernel
theorem dX5_addChoices_19 : decode cX5_addChoices 19 = .ok (.isub, 1) := by decide +kernel
theorem dX5_addChoices_20 : decode cX5_addChoices 20 = .ok (.ireturn, 1) := by decide +kernel
theorem dX5_addChoices_21 : decode cX5_addChoices 21 = .ok (.aload_n 0, 1) := by decide +kernel
theorem dX5_addChoices_22 : decode cX5_addChoices 22 = .ok (.getfield 16, 3) := by decide +kernel
theorem dX5_addChoices_25 : decode cX5_addChoices 25 = .ok (.aload_n 0, 1) := by decide +kernel
theorem dX5_addChoices_26 : decode cX5_addChoices 26 = .ok (.getfield 12, 3) := by decide +kernel
theorem dX5_addChoices_29 : decode cX5_addChoices 29 = .ok (.invokevirtual 98, 3) := by decide +kernel
theorem dX5_addChoices_32 : decode cX5_addChoices 32 = .ok (.iconst 0, 1) := by decide +kernel
theorem dX5_addChoices_33 : decode cX5_addChoices 33 = .ok (.istore_n 1, 1) := by decide +kernel
theorem dX5_addChoices_34 : decode cX5_addChoices 34 = .ok (.iload_n 1, 1) := by decide +kernel
theorem dX5_addChoices_35 : decode cX5_addChoices 35 = .ok (.aload_n 0, 1) := by decide +kernel
theorem dX5_addChoices_36 : decode cX5_addChoices 36 = .ok (.getfield 36, 3) := by decide +kernel
theorem dX5_addChoices_39 : decode cX5_addChoices 39 = .ok (.getfield 102, 3) := by decide +kernel
theorem dX5_addChoices_42 : decode cX5_addChoices 42 = .ok (.if_icmp .ge 102, 3) := by decide +kernel
theorem dX5_addChoices_45 : decode cX5_addChoices 45 = .ok (.iload_n 1, 1) := by decide +kernel
theorem dX5_addChoices_46 : decode cX5_addChoices 46 = .ok (.bipush 16, 2) := by decide +kernel
theorem dX5_addChoices_48 : decode cX5_addChoices 48 = .ok (.if_icmp .ge 96, 3) := by decide +kernel
theorem dX5_addChoices_51 : decode cX5_addChoices 51 = .ok (.aload_n 0, 1) := by decide +kernel
theorem dX5_addChoices_52 : decode cX5_addChoices 52 = .ok (.getfield 36, 3) := by decide +kernel
theorem dX5_addChoices_55 : decode cX5_addChoices 55 = .ok (.getfield 105, 3) := by decide +kernel
theorem dX5_addChoices_58 : decode cX5_addChoices 58 = .ok (.iload_n 1, 1) := by decide +kernel
theorem dX5_addChoices_59 : decode cX5_addChoices 59 = .ok (.invokevirtual 72, 3) := by decide +kernel
theorem dX5_addChoices_62 : decode cX5_addChoices 62 = .ok (.istore_n 2, 1) := by decide +kernel
theorem dX5_addChoices_63 : decode cX5_addChoices 63 = .ok (.aload_n 0, 1) := by decide +kernel
theorem dX5_addChoices_64 : decode cX5_addChoices 64 = .ok (.getfield 36, 3) := by decide +kernel
theorem dX5_addChoices_67 : decode cX5_addChoices 67 = .ok (.getfield 108, 3) := by decide +kernel
theorem dX5_addChoices_70 : decode cX5_addChoices 70 = .ok (.iload_n 1, 1) := by decide +kernel
theorem dX5_addChoices_71 : decode cX5_addChoices 71 = .ok (.invokevirtual 72, 3) := by decide +kernel
theorem dX5_addChoices_74 : decode cX5_addChoices 74 = .ok (.istore_n 3, 1) := by decide +kernel
theorem dX5_addChoices_75 : decode cX5_addChoices 75 = .ok (.aload_n 0, 1) := by decide +kernel
theorem dX5_addChoices_76 : decode cX5_addChoices 76 = .ok (.getfield 36, 3) := by decide +kernel
theorem dX5_addChoices_79 : decode cX5_addChoices 79 = .ok (.getfield 111, 3) := by decide +kernel
theorem dX5_addChoices_82 : decode cX5_addChoices 82 = .ok (.iload_n 1, 1) := by decide +kernel
theorem dX5_addChoices_83 : decode cX5_addChoices 83 = .ok (.invokevirtual 72, 3) := by decide +kernel
theorem dX5_addChoices_86 : decode cX5_addChoices 86 = .ok (.istore 4, 2) := by decide +kernel
theorem dX5_addChoices_88 : decode cX5_addChoices 88 = .ok (.aload_n 0, 1) := by decide +kernel
theorem dX5_addChoices_89 : decode cX5_addChoices 89 = .ok (.getfield 36, 3) := by decide +kernel
theorem dX5_addChoices_92 : decode cX5_addChoices 92 = .ok (.getfield 114, 3) := by decide +kernel
theorem dX5_addChoices_95 : decode cX5_addChoices 95 = .ok (.iload_n 1, 1) := by decide +kernel
theorem dX5_addChoices_96 : decode cX5_addChoices 96 = .ok (.invokevirtual 72, 3) := by decide +kernel
theorem dX5_addChoices_99 : decode cX5_addChoices 99 = .ok (.istore 5, 2) := by decide +kernel
theorem dX5_addChoices_101 : decode cX5_addChoices 101 = .ok (.aload_n 0, 1) := by decide +kernel
theorem dX5_addChoices_102 : decode cX5_addChoices 102 = .ok (.getfield 16, 3) := by decide +kernel
theorem dX5_addChoices_105 : decode cX5_addChoices 105 = .ok (.iload_n 2, 1) := by decide +kernel
theorem dX5_addChoices_106 : decode cX5_addChoices 106 = .ok (.iload_n 3, 1) := by decide +kernel
theorem dX5_addChoices_107 : decode cX5_addChoices 107 = .ok (.iload 4, 2) := by decide +kernel
theorem dX5_addChoices_109 : decode cX5_addChoices 109 = .ok (.iload 5, 2) := by decide +kernel
theorem dX5_addChoices_111 : decode cX5_addChoices 111 = .ok (.invokevirtual 85, 3) := by decide +kernel
theorem dX5_addChoices_114 : decode cX5_addChoices 114 = .ok (.istore 6, 2) := by decide +kernel
theorem dX5_addChoices_116 : decode cX5_addChoices 116 = .ok (.iload 6, 2) := by decide +kernel
theorem dX5_addChoices_118 : decode cX5_addChoices 118 = .ok (.ifCond .eq 6, 3) := by decide +kernel
theorem dX5_addChoices_121 : decode cX5_addChoices 121 = .ok (.iload 6, 2) := by decide +kernel
theorem dX5_addChoices_123 : decode cX5_addChoices 123 = .ok (.ireturn, 1) := by decide +kernel
theorem dX5_addChoices_124 : decode cX5_addChoices 124 = .ok (.aload_n 0, 1) := by decide +kernel
theorem dX5_addChoices_125 : decode cX5_addChoices 125 = .ok (.getfield 16, 3) := by decide +kernel
theorem dX5_addChoices_128 : decode cX5_addChoices 128 = .ok (.iload_n 2, 1) := by decide +kernel
theorem dX5_addChoices_129 : decode cX5_addChoices 129 = .ok (.iload_n 3, 1) := by decide +kernel
theorem dX5_addChoices_130 : decode cX5_addChoices 130 = .ok (.iload 4, 2) := by decide +kernel
theorem dX5_addChoices_132 : decode cX5_addChoices 132 = .ok (.iload 5, 2) := by decide +kernel
theorem dX5_addChoices_134 : decode cX5_addChoices 134 = .ok (.invokevirtual 89, 3) := by decide +kernel
theorem dX5_addChoices_137 : decode cX5_addChoices 137 = .ok (.pop, 1) := by decide +kernel
theorem dX5_addChoices_138 : decode cX5_addChoices 138 = .ok (.iinc 1 1, 3) := by decide +kernel
theorem dX5_addChoices_141 : decode cX5_addChoices 141 = .ok (.goto (-107), 3) := by decide +kernel
theorem dX5_addChoices_144 : decode cX5_addChoices 144 = .ok (.aload_n 0, 1) := by decide +kernel
theorem dX5_addChoices_145 : decode cX5_addChoices 145 = .ok (.invokevirtual 58, 3) := by decide +kernel
theorem dX5_addChoices_148 : decode cX5_addChoices 148 = .ok (.aload_n 0, 1) := by decide +kernel
theorem dX5_addChoices_149 : decode cX5_addChoices 149 = .ok (.getfield 12, 3) := by decide +kernel
theorem dX5_addChoices_152 : decode cX5_addChoices 152 = .ok (.aload_n 0, 1) := by decide +kernel
theorem dX5_addChoices_153 : decode cX5_addChoices 153 = .ok (.getfield 16, 3) := by decide +kernel
theorem dX5_addChoices_156 : decode cX5_addChoices 156 = .ok (.invokevirtual 98, 3) := by decide +kernel
theorem dX5_addChoices_159 : decode cX5_addChoices 159 = .ok (.aload_n 0, 1) := by decide +kernel
theorem dX5_addChoices_160 : decode cX5_addChoices 160 = .ok (.getfield 36, 3) := by decide +kernel
theorem dX5_addChoices_163 : decode cX5_addChoices 163 = .ok (.getfield 102, 3) := by decide +kernel
theorem dX5_addChoices_166 : decode cX5_addChoices 166 = .ok (.ireturn, 1) := by decide +kernel
theorem dX5_takeChoice_0 : decode cX5_takeChoice 0 = .ok (.aload_n 0, 1) := by decide +kernel
theorem dX5_takeChoice_1 : decode cX5_takeChoice 1 = .ok (.getfield 12, 3) := by decide +kernel
theorem dX5_takeChoice_4 : decode cX5_takeChoice 4 = .ok (.iload_n 1, 1) := by decide +kernel
theorem dX5_takeChoice_5 : decode cX5_takeChoice 5 = .ok (.iload_n 2, 1) := by decide +kernel
theorem dX5_takeChoice_6 : decode cX5_takeChoice 6 = .ok (.invokevirtual 117, 3) := by decide +kernel
theorem dX5_takeChoice_9 : decode cX5_takeChoice 9 = .ok (.ifCond .ne 5, 3) := by decide +kernel
theorem dX5_takeChoice_12 : decode cX5_takeChoice 12 = .ok (.iconst (-1), 1) := by decide +kernel
theorem dX5_takeChoice_13 : decode cX5_takeChoice 13 = .ok (.ireturn, 1) := by decide +kernel
theorem dX5_takeChoice_14 : decode cX5_takeChoice 14 = .ok (.aload_n 0, 1) := by decide +kernel
theorem dX5_takeChoice_15 : decode cX5_takeChoice 15 = .ok (.invokevirtual 58, 3) := by decide +kernel
theorem dX5_takeChoice_18 : decode cX5_takeChoice 18 = .ok (.aload_n 0, 1) := by decide +kernel
theorem dX5_takeChoice_19 : decode cX5_takeChoice 19 = .ok (.getfield 12, 3) := by decide +kernel
theorem dX5_takeChoice_22 : decode cX5_takeChoice 22 = .ok (.iload_n 1, 1) := by decide +kernel
theorem dX5_takeChoice_23 : decode cX5_takeChoice 23 = .ok (.iload_n 2, 1) := by decide +kernel
theorem dX5_takeChoice_24 : decode cX5_takeChoice 24 = .ok (.invokevirtual 121, 3) := by decide +kernel
theorem dX5_takeChoice_27 : decode cX5_takeChoice 27 = .ok (.ireturn, 1) := by decide +kernel
theorem dX5_exchange_0 : decode cX5_exchange 0 = .ok (.aload_n 0, 1) := by decide +kernel
theorem dX5_exchange_1 : decode cX5_exchange 1 = .ok (.getfield 12, 3) := by decide +kernel
theorem dX5_exchange_4 : decode cX5_exchange 4 = .ok (.iload_n 1, 1) := by decide +kernel
theorem dX5_exchange_5 : decode cX5_exchange 5 = .ok (.invokevirtual 65, 3) := by decide +kernel
theorem dX5_exchange_8 : decode cX5_exchange 8 = .ok (.ifCond .eq 14, 3) := by decide +kernel
theorem dX5_exchange_11 : decode cX5_exchange 11 = .ok (.aload_n 0, 1) := by decide +kernel
theorem dX5_exchange_12 : decode cX5_exchange 12 = .ok (.getfield 12, 3) := by decide +kernel
theorem dX5_exchange_15 : decode cX5_exchange 15 = .ok (.iload_n 2, 1) := by decide +kernel
theorem dX5_exchange_16 : decode cX5_exchange 16 = .ok (.invokevirtual 65, 3) := by decide +kernel
theorem dX5_exchange_19 : decode cX5_exchange 19 = .ok (.ifCond .ne 5, 3) := by decide +kernel
theorem dX5_exchange_22 : decode cX5_exchange 22 = .ok (.iconst (-1), 1) := by decide +kernel
theorem dX5_exchange_23 : decode cX5_exchange 23 = .ok (.ireturn, 1) := by decide +kernel
theorem dX5_exchange_24 : decode cX5_exchange 24 = .ok (.iload_n 1, 1) := by decide +kernel
theorem dX5_exchange_25 : decode cX5_exchange 25 = .ok (.iload_n 2, 1) := by decide +kernel
theorem dX5_exchange_26 : decode cX5_exchange 26 = .ok (.if_icmp .ne 6, 3) := by decide +kernel
theorem dX5_exchange_29 : decode cX5_exchange 29 = .ok (.bipush (-5), 2) := by decide +kernel
theorem dX5_exchange_31 : decode cX5_exchange 31 = .ok (.ireturn, 1) := by decide +kernel
theorem dX5_exchange_32 : decode cX5_exchange 32 = .ok (.aload_n 0, 1) := by decide +kernel
theorem dX5_exchange_33 : decode cX5_exchange 33 = .ok (.invokevirtual 58, 3) := by decide +kernel
theorem dX5_exchange_36 : decode cX5_exchange 36 = .ok (.aload_n 0, 1) := by decide +kernel
theorem dX5_exchange_37 : decode cX5_exchange 37 = .ok (.getfield 12, 3) := by decide +kernel
theorem dX5_exchange_40 : decode cX5_exchange 40 = .ok (.iload_n 1, 1) := by decide +kernel
theorem dX5_exchange_41 : decode cX5_exchange 41 = .ok (.iload_n 2, 1) := by decide +kernel
theorem dX5_exchange_42 : decode cX5_exchange 42 = .ok (.invokevirtual 125, 3) := by decide +kernel
theorem dX5_exchange_45 : decode cX5_exchange 45 = .ok (.aload_n 0, 1) := by decide +kernel
theorem dX5_exchange_46 : decode cX5_exchange 46 = .ok (.getfield 12, 3) := by decide +kernel
theorem dX5_exchange_49 : decode cX5_exchange 49 = .ok (.iload_n 1, 1) := by decide +kernel
theorem dX5_exchange_50 : decode cX5_exchange 50 = .ok (.invokevirtual 128, 3) := by decide +kernel
theorem dX5_exchange_53 : decode cX5_exchange 53 = .ok (.aload_n 0, 1) := by decide +kernel
theorem dX5_exchange_54 : decode cX5_exchange 54 = .ok (.getfield 12, 3) := by decide +kernel
theorem dX5_exchange_57 : decode cX5_exchange 57 = .ok (.iload_n 2, 1) := by decide +kernel
theorem dX5_exchange_58 : decode cX5_exchange 58 = .ok (.invokevirtual 128, 3) := by decide +kernel
theorem dX5_exchange_61 : decode cX5_exchange 61 = .ok (.iadd, 1) := by decide +kernel
theorem dX5_exchange_62 : decode cX5_exchange 62 = .ok (.ireturn, 1) := by decide +kernel
theorem dX5_begin_0 : decode cX5_begin 0 = .ok (.iload_n 1, 1) := by decide +kernel
theorem dX5_begin_1 : decode cX5_begin 1 = .ok (.invokestatic 131, 3) := by decide +kernel
theorem dX5_begin_4 : decode cX5_begin 4 = .ok (.ifCond .ne 5, 3) := by decide +kernel
theorem dX5_begin_7 : decode cX5_begin 7 = .ok (.iconst (-1), 1) := by decide +kernel
theorem dX5_begin_8 : decode cX5_begin 8 = .ok (.ireturn, 1) := by decide +kernel
theorem dX5_begin_9 : decode cX5_begin 9 = .ok (.aload_n 0, 1) := by decide +kernel
theorem dX5_begin_10 : decode cX5_begin 10 = .ok (.getfield 12, 3) := by decide +kernel
theorem dX5_begin_13 : decode cX5_begin 13 = .ok (.getfield 54, 3) := by decide +kernel
theorem dX5_begin_16 : decode cX5_begin 16 = .ok (.ifCond .ne 6, 3) := by decide +kernel
theorem dX5_begin_19 : decode cX5_begin 19 = .ok (.bipush (-4), 2) := by decide +kernel
theorem dX5_begin_21 : decode cX5_begin 21 = .ok (.ireturn, 1) := by decide +kernel
theorem dX5_begin_22 : decode cX5_begin 22 = .ok (.aload_n 0, 1) := by decide +kernel
theorem dX5_begin_23 : decode cX5_begin 23 = .ok (.invokevirtual 58, 3) := by decide +kernel
theorem dX5_begin_26 : decode cX5_begin 26 = .ok (.aload_n 0, 1) := by decide +kernel
theorem dX5_begin_27 : decode cX5_begin 27 = .ok (.getfield 12, 3) := by decide +kernel
theorem dX5_begin_30 : decode cX5_begin 30 = .ok (.invokevirtual 134, 3) := by decide +kernel
theorem dX5_begin_33 : decode cX5_begin 33 = .ok (.istore_n 2, 1) := by decide +kernel
theorem dX5_begin_34 : decode cX5_begin 34 = .ok (.aload_n 0, 1) := by decide +kernel
theorem dX5_begin_35 : decode cX5_begin 35 = .ok (.getfield 12, 3) := by decide +kernel
theorem dX5_begin_38 : decode cX5_begin 38 = .ok (.iload_n 1, 1) := by decide +kernel
theorem dX5_begin_39 : decode cX5_begin 39 = .ok (.iload_n 2, 1) := by decide +kernel
theorem dX5_begin_40 : decode cX5_begin 40 = .ok (.iconst 0, 1) := by decide +kernel
theorem dX5_begin_41 : decode cX5_begin 41 = .ok (.invokevirtual 138, 3) := by decide +kernel
theorem dX5_begin_44 : decode cX5_begin 44 = .ok (.iload_n 2, 1) := by decide +kernel
theorem dX5_begin_45 : decode cX5_begin 45 = .ok (.invokestatic 142, 3) := by decide +kernel
theorem dX5_begin_48 : decode cX5_begin 48 = .ok (.ireturn, 1) := by decide +kernel
theorem dX5_choose_0 : decode cX5_choose 0 = .ok (.iload_n 1, 1) := by decide +kernel
theorem dX5_choose_1 : decode cX5_choose 1 = .ok (.invokestatic 131, 3) := by decide +kernel
theorem dX5_choose_4 : decode cX5_choose 4 = .ok (.ifCond .ne 5, 3) := by decide +kernel
theorem dX5_choose_7 : decode cX5_choose 7 = .ok (.iconst (-1), 1) := by decide +kernel
theorem dX5_choose_8 : decode cX5_choose 8 = .ok (.ireturn, 1) := by decide +kernel
theorem dX5_choose_9 : decode cX5_choose 9 = .ok (.iload_n 2, 1) := by decide +kernel
theorem dX5_choose_10 : decode cX5_choose 10 = .ok (.invokestatic 145, 3) := by decide +kernel
theorem dX5_choose_13 : decode cX5_choose 13 = .ok (.ifCond .ne 6, 3) := by decide +kernel
theorem dX5_choose_16 : decode cX5_choose 16 = .ok (.bipush (-2), 2) := by decide +kernel
theorem dX5_choose_18 : decode cX5_choose 18 = .ok (.ireturn, 1) := by decide +kernel
theorem dX5_choose_19 : decode cX5_choose 19 = .ok (.aload_n 0, 1) := by decide +kernel
theorem dX5_choose_20 : decode cX5_choose 20 = .ok (.getfield 12, 3) := by decide +kernel
theorem dX5_choose_23 : decode cX5_choose 23 = .ok (.iload_n 1, 1) := by decide +kernel
theorem dX5_choose_24 : decode cX5_choose 24 = .ok (.iload_n 2, 1) := by decide +kernel
theorem dX5_choose_25 : decode cX5_choose 25 = .ok (.invokevirtual 148, 3) := by decide +kernel
theorem dX5_choose_28 : decode cX5_choose 28 = .ok (.ifCond .eq 6, 3) := by decide +kernel
theorem dX5_choose_31 : decode cX5_choose 31 = .ok (.bipush (-4), 2) := by decide +kernel
theorem dX5_choose_33 : decode cX5_choose 33 = .ok (.ireturn, 1) := by decide +kernel
theorem dX5_choose_34 : decode cX5_choose 34 = .ok (.aload_n 0, 1) := by decide +kernel
theorem dX5_choose_35 : decode cX5_choose 35 = .ok (.invokevirtual 58, 3) := by decide +kernel
theorem dX5_choose_38 : decode cX5_choose 38 = .ok (.aload_n 0, 1) := by decide +kernel
theorem dX5_choose_39 : decode cX5_choose 39 = .ok (.getfield 12, 3) := by decide +kernel
theorem dX5_choose_42 : decode cX5_choose 42 = .ok (.aload_n 0, 1) := by decide +kernel
theorem dX5_choose_43 : decode cX5_choose 43 = .ok (.getfield 12, 3) := by decide +kernel
theorem dX5_choose_46 : decode cX5_choose 46 = .ok (.getfield 151, 3) := by decide +kernel
theorem dX5_choose_49 : decode cX5_choose 49 = .ok (.iload_n 1, 1) := by decide +kernel
theorem dX5_choose_50 : decode cX5_choose 50 = .ok (.invokevirtual 72, 3) := by decide +kernel
theorem dX5_choose_53 : decode cX5_choose 53 = .ok (.iload_n 2, 1) := by decide +kernel
theorem dX5_choose_54 : decode cX5_choose 54 = .ok (.invokevirtual 154, 3) := by decide +kernel
theorem dX5_choose_57 : decode cX5_choose 57 = .ok (.istore_n 3, 1) := by decide +kernel
theorem dX5_choose_58 : decode cX5_choose 58 = .ok (.aload_n 0, 1) := by decide +kernel
theorem dX5_choose_59 : decode cX5_choose 59 = .ok (.getfield 12, 3) := by decide +kernel
theorem dX5_choose_62 : decode cX5_choose 62 = .ok (.iload_n 1, 1) := by decide +kernel
theorem dX5_choose_63 : decode cX5_choose 63 = .ok (.iload_n 3, 1) := by decide +kernel
theorem dX5_choose_64 : decode cX5_choose 64 = .ok (.aload_n 0, 1) := by decide +kernel
theorem dX5_choose_65 : decode cX5_choose 65 = .ok (.getfield 12, 3) := by decide +kernel
theorem dX5_choose_68 : decode cX5_choose 68 = .ok (.getfield 157, 3) := by decide +kernel
theorem dX5_choose_71 : decode cX5_choose 71 = .ok (.iload_n 1, 1) := by decide +kernel
theorem dX5_choose_72 : decode cX5_choose 72 = .ok (.invokevirtual 72, 3) := by decide +kernel
theorem dX5_choose_75 : decode cX5_choose 75 = .ok (.iconst 1, 1) := by decide +kernel
theorem dX5_choose_76 : decode cX5_choose 76 = .ok (.iadd, 1) := by decide +kernel
theorem dX5_choose_77 : decode cX5_choose 77 = .ok (.invokevirtual 138, 3) := by decide +kernel
theorem dX5_choose_80 : decode cX5_choose 80 = .ok (.iload_n 3, 1) := by decide +kernel
theorem dX5_choose_81 : decode cX5_choose 81 = .ok (.invokestatic 160, 3) := by decide +kernel
theorem dX5_choose_84 : decode cX5_choose 84 = .ok (.ireturn, 1) := by decide +kernel
theorem dX5_mark_0 : decode cX5_mark 0 = .ok (.iload_n 1, 1) := by decide +kernel
theorem dX5_mark_1 : decode cX5_mark 1 = .ok (.invokestatic 131, 3) := by decide +kernel
theorem dX5_mark_4 : decode cX5_mark 4 = .ok (.ifCond .ne 5, 3) := by decide +kernel
theorem dX5_mark_7 : decode cX5_mark 7 = .ok (.iconst (-1), 1) := by decide +kernel
theorem dX5_mark_8 : decode cX5_mark 8 = .ok (.ireturn, 1) := by decide +kernel
theorem dX5_mark_9 : decode cX5_mark 9 = .ok (.aload_n 0, 1) := by decide +kernel
theorem dX5_mark_10 : decode cX5_mark 10 = .ok (.getfield 12, 3) := by decide +kernel
theorem dX5_mark_13 : decode cX5_mark 13 = .ok (.getfield 151, 3) := by decide +kernel
theorem dX5_mark_16 : decode cX5_mark 16 = .ok (.iload_n 1, 1) := by decide +kernel
theorem dX5_mark_17 : decode cX5_mark 17 = .ok (.invokevirtual 72, 3) := by decide +kernel
theorem dX5_mark_20 : decode cX5_mark 20 = .ok (.istore_n 2, 1) := by decide +kernel
theorem dX5_mark_21 : decode cX5_mark 21 = .ok (.iload_n 2, 1) := by decide +kernel
theorem dX5_mark_22 : decode cX5_mark 22 = .ok (.iconst (-1), 1) := by decide +kernel
theorem dX5_mark_23 : decode cX5_mark 23 = .ok (.if_icmp .ne 6, 3) := by decide +kernel
theorem dX5_mark_26 : decode cX5_mark 26 = .ok (.bipush (-4), 2) := by decide +kernel
theorem dX5_mark_28 : decode cX5_mark 28 = .ok (.ireturn, 1) := by decide +kernel
theorem dX5_mark_29 : decode cX5_mark 29 = .ok (.aload_n 0, 1) := by decide +kernel
theorem dX5_mark_30 : decode cX5_mark 30 = .ok (.getfield 12, 3) := by decide +kernel
theorem dX5_mark_33 : decode cX5_mark 33 = .ok (.getfield 163, 3) := by decide +kernel
theorem dX5_mark_36 : decode cX5_mark 36 = .ok (.iload_n 2, 1) := by decide +kernel
theorem dX5_mark_37 : decode cX5_mark 37 = .ok (.if_icmp .ne 6, 3) := by decide +kernel
theorem dX5_mark_40 : decode cX5_mark 40 = .ok (.bipush (-5), 2) := by decide +kernel
theorem dX5_mark_42 : decode cX5_mark 42 = .ok (.ireturn, 1) := by decide +kernel
theorem dX5_mark_43 : decode cX5_mark 43 = .ok (.aload_n 0, 1) := by decide +kernel
theorem dX5_mark_44 : decode cX5_mark 44 = .ok (.invokevirtual 58, 3) := by decide +kernel
theorem dX5_mark_47 : decode cX5_mark 47 = .ok (.aload_n 0, 1) := by decide +kernel
theorem dX5_mark_48 : decode cX5_mark 48 = .ok (.getfield 12, 3) := by decide +kernel
theorem dX5_mark_51 : decode cX5_mark 51 = .ok (.iload_n 2, 1) := by decide +kernel
theorem dX5_mark_52 : decode cX5_mark 52 = .ok (.putfield 163, 3) := by decide +kernel
theorem dX5_mark_55 : decode cX5_mark 55 = .ok (.iload_n 2, 1) := by decide +kernel
theorem dX5_mark_56 : decode cX5_mark 56 = .ok (.invokestatic 160, 3) := by decide +kernel
theorem dX5_mark_59 : decode cX5_mark 59 = .ok (.ireturn, 1) := by decide +kernel
theorem dX5_goToMark_0 : decode cX5_goToMark 0 = .ok (.iload_n 1, 1) := by decide +kernel
theorem dX5_goToMark_1 : decode cX5_goToMark 1 = .ok (.invokestatic 131, 3) := by decide +kernel
theorem dX5_goToMark_4 : decode cX5_goToMark 4 = .ok (.ifCond .ne 5, 3) := by decide +kernel
theorem dX5_goToMark_7 : decode cX5_goToMark 7 = .ok (.iconst (-1), 1) := by decide +kernel
theorem dX5_goToMark_8 : decode cX5_goToMark 8 = .ok (.ireturn, 1) := by decide +kernel
theorem dX5_goToMark_9 : decode cX5_goToMark 9 = .ok (.aload_n 0, 1) := by decide +kernel
theorem dX5_goToMark_10 : decode cX5_goToMark 10 = .ok (.getfield 12, 3) := by decide +kernel
theorem dX5_goToMark_13 : decode cX5_goToMark 13 = .ok (.getfield 163, 3) := by decide +kernel
theorem dX5_goToMark_16 : decode cX5_goToMark 16 = .ok (.iconst (-1), 1) := by decide +kernel
theorem dX5_goToMark_17 : decode cX5_goToMark 17 = .ok (.if_icmp .ne 6, 3) := by decide +kernel
theorem dX5_goToMark_20 : decode cX5_goToMark 20 = .ok (.bipush (-4), 2) := by decide +kernel
theorem dX5_goToMark_22 : decode cX5_goToMark 22 = .ok (.ireturn, 1) := by decide +kernel
theorem dX5_goToMark_23 : decode cX5_goToMark 23 = .ok (.aload_n 0, 1) := by decide +kernel
theorem dX5_goToMark_24 : decode cX5_goToMark 24 = .ok (.getfield 12, 3) := by decide +kernel
theorem dX5_goToMark_27 : decode cX5_goToMark 27 = .ok (.getfield 151, 3) := by decide +kernel
theorem dX5_goToMark_30 : decode cX5_goToMark 30 = .ok (.iload_n 1, 1) := by decide +kernel
theorem dX5_goToMark_31 : decode cX5_goToMark 31 = .ok (.invokevirtual 72, 3) := by decide +kernel
theorem dX5_goToMark_34 : decode cX5_goToMark 34 = .ok (.aload_n 0, 1) := by decide +kernel
theorem dX5_goToMark_35 : decode cX5_goToMark 35 = .ok (.getfield 12, 3) := by decide +kernel
theorem dX5_goToMark_38 : decode cX5_goToMark 38 = .ok (.getfield 163, 3) := by decide +kernel
theorem dX5_goToMark_41 : decode cX5_goToMark 41 = .ok (.if_icmp .ne 6, 3) := by decide +kernel
theorem dX5_goToMark_44 : decode cX5_goToMark 44 = .ok (.bipush (-5), 2) := by decide +kernel
theorem dX5_goToMark_46 : decode cX5_goToMark 46 = .ok (.ireturn, 1) := by decide +kernel
theorem dX5_goToMark_47 : decode cX5_goToMark 47 = .ok (.aload_n 0, 1) := by decide +kernel
theorem dX5_goToMark_48 : decode cX5_goToMark 48 = .ok (.invokevirtual 58, 3) := by decide +kernel
theorem dX5_goToMark_51 : decode cX5_goToMark 51 = .ok (.aload_n 0, 1) := by decide +kernel
theorem dX5_goToMark_52 : decode cX5_goToMark 52 = .ok (.getfield 12, 3) := by decide +kernel
theorem dX5_goToMark_55 : decode cX5_goToMark 55 = .ok (.iload_n 1, 1) := by decide +kernel
theorem dX5_goToMark_56 : decode cX5_goToMark 56 = .ok (.aload_n 0, 1) := by decide +kernel
theorem dX5_goToMark_57 : decode cX5_goToMark 57 = .ok (.getfield 12, 3) := by decide +kernel
theorem dX5_goToMark_60 : decode cX5_goToMark 60 = .ok (.getfield 163, 3) := by decide +kernel
theorem dX5_goToMark_63 : decode cX5_goToMark 63 = .ok (.iconst 0, 1) := by decide +kernel
theorem dX5_goToMark_64 : decode cX5_goToMark 64 = .ok (.invokevirtual 138, 3) := by decide +kernel
theorem dX5_goToMark_67 : decode cX5_goToMark 67 = .ok (.aload_n 0, 1) := by decide +kernel
theorem dX5_goToMark_68 : decode cX5_goToMark 68 = .ok (.getfield 12, 3) := by decide +kernel
theorem dX5_goToMark_71 : decode cX5_goToMark 71 = .ok (.getfield 163, 3) := by decide +kernel
theorem dX5_goToMark_74 : decode cX5_goToMark 74 = .ok (.invokestatic 160, 3) := by decide +kernel
theorem dX5_goToMark_77 : decode cX5_goToMark 77 = .ok (.ireturn, 1) := by decide +kernel
theorem dX5_type_0 : decode cX5_type 0 = .ok (.aload_n 0, 1) := by decide +kernel
theorem dX5_type_1 : decode cX5_type 1 = .ok (.getfield 36, 3) := by decide +kernel
theorem dX5_type_4 : decode cX5_type 4 = .ok (.getfield 166, 3) := by decide +kernel
theorem dX5_type_7 : decode cX5_type 7 = .ok (.bipush 60, 2) := by decide +kernel
theorem dX5_type_9 : decode cX5_type 9 = .ok (.if_icmp .lt 6, 3) := by decide +kernel
theorem dX5_type_12 : decode cX5_type 12 = .ok (.bipush (-3), 2) := by decide +kernel
theorem dX5_type_14 : decode cX5_type 14 = .ok (.ireturn, 1) := by decide +kernel
theorem dX5_type_15 : decode cX5_type 15 = .ok (.aload_n 0, 1) := by decide +kernel
theorem dX5_type_16 : decode cX5_type 16 = .ok (.getfield 36, 3) := by decide +kernel
theorem dX5_type_19 : decode cX5_type 19 = .ok (.iload_n 1, 1) := by decide +kernel
theorem dX5_type_20 : decode cX5_type 20 = .ok (.invokevirtual 169, 3) := by decide +kernel
theorem dX5_type_23 : decode cX5_type 23 = .ok (.ireturn, 1) := by decide +kernel
theorem dX5_clearText_0 : decode cX5_clearText 0 = .ok (.aload_n 0, 1) := by decide +kernel
theorem dX5_clearText_1 : decode cX5_clearText 1 = .ok (.getfield 36, 3) := by decide +kernel
theorem dX5_clearText_4 : decode cX5_clearText 4 = .ok (.getfield 166, 3) := by decide +kernel
theorem dX5_clearText_7 : decode cX5_clearText 7 = .ok (.istore_n 1, 1) := by decide +kernel
theorem dX5_clearText_8 : decode cX5_clearText 8 = .ok (.aload_n 0, 1) := by decide +kernel
theorem dX5_clearText_9 : decode cX5_clearText 9 = .ok (.getfield 36, 3) := by decide +kernel
theorem dX5_clearText_12 : decode cX5_clearText 12 = .ok (.iconst 0, 1) := by decide +kernel
theorem dX5_clearText_13 : decode cX5_clearText 13 = .ok (.putfield 166, 3) := by decide +kernel
theorem dX5_clearText_16 : decode cX5_clearText 16 = .ok (.iload_n 1, 1) := by decide +kernel
theorem dX5_clearText_17 : decode cX5_clearText 17 = .ok (.ireturn, 1) := by decide +kernel
theorem dX5_undo_0 : decode cX5_undo 0 = .ok (.aload_n 0, 1) := by decide +kernel
theorem dX5_undo_1 : decode cX5_undo 1 = .ok (.getfield 29, 3) := by decide +kernel
theorem dX5_undo_4 : decode cX5_undo 4 = .ok (.getfield 173, 3) := by decide +kernel
theorem dX5_undo_7 : decode cX5_undo 7 = .ok (.ifCond .ne 6, 3) := by decide +kernel
theorem dX5_undo_10 : decode cX5_undo 10 = .ok (.bipush (-5), 2) := by decide +kernel
theorem dX5_undo_12 : decode cX5_undo 12 = .ok (.ireturn, 1) := by decide +kernel
theorem dX5_undo_13 : decode cX5_undo 13 = .ok (.aload_n 0, 1) := by decide +kernel
theorem dX5_undo_14 : decode cX5_undo 14 = .ok (.getfield 29, 3) := by decide +kernel
theorem dX5_undo_17 : decode cX5_undo 17 = .ok (.aload_n 0, 1) := by decide +kernel
theorem dX5_undo_18 : decode cX5_undo 18 = .ok (.getfield 12, 3) := by decide +kernel
theorem dX5_undo_21 : decode cX5_undo 21 = .ok (.invokevirtual 176, 3) := by decide +kernel
theorem dX5_undo_24 : decode cX5_undo 24 = .ok (.aload_n 0, 1) := by decide +kernel
theorem dX5_undo_25 : decode cX5_undo 25 = .ok (.getfield 43, 3) := by decide +kernel
theorem dX5_undo_28 : decode cX5_undo 28 = .ok (.iconst 0, 1) := by decide +kernel
theorem dX5_undo_29 : decode cX5_undo 29 = .ok (.putfield 179, 3) := by decide +kernel
theorem dX5_undo_32 : decode cX5_undo 32 = .ok (.aload_n 0, 1) := by decide +kernel
theorem dX5_undo_33 : decode cX5_undo 33 = .ok (.getfield 29, 3) := by decide +kernel
theorem dX5_undo_36 : decode cX5_undo 36 = .ok (.getfield 173, 3) := by decide +kernel
theorem dX5_undo_39 : decode cX5_undo 39 = .ok (.ireturn, 1) := by decide +kernel
theorem dX5_keep_0 : decode cX5_keep 0 = .ok (.aload_n 0, 1) := by decide +kernel
theorem dX5_keep_1 : decode cX5_keep 1 = .ok (.getfield 19, 3) := by decide +kernel
theorem dX5_keep_4 : decode cX5_keep 4 = .ok (.aload_n 0, 1) := by decide +kernel
theorem dX5_keep_5 : decode cX5_keep 5 = .ok (.getfield 12, 3) := by decide +kernel
theorem dX5_keep_8 : decode cX5_keep 8 = .ok (.invokevirtual 98, 3) := by decide +kernel
theorem dX5_keep_11 : decode cX5_keep 11 = .ok (.aload_n 0, 1) := by decide +kernel
theorem dX5_keep_12 : decode cX5_keep 12 = .ok (.iconst 1, 1) := by decide +kernel
theorem dX5_keep_13 : decode cX5_keep 13 = .ok (.putfield 22, 3) := by decide +kernel
theorem dX5_keep_16 : decode cX5_keep 16 = .ok (.aload_n 0, 1) := by decide +kernel
theorem dX5_keep_17 : decode cX5_keep 17 = .ok (.getfield 12, 3) := by decide +kernel
theorem dX5_keep_20 : decode cX5_keep 20 = .ok (.getfield 54, 3) := by decide +kernel
theorem dX5_keep_23 : decode cX5_keep 23 = .ok (.ireturn, 1) := by decide +kernel
theorem dX5_restore_0 : decode cX5_restore 0 = .ok (.aload_n 0, 1) := by decide +kernel
theorem dX5_restore_1 : decode cX5_restore 1 = .ok (.getfield 22, 3) := by decide +kernel
theorem dX5_restore_4 : decode cX5_restore 4 = .ok (.ifCond .ne 6, 3) := by decide +kernel
theorem dX5_restore_7 : decode cX5_restore 7 = .ok (.bipush (-5), 2) := by decide +kernel
theorem dX5_restore_9 : decode cX5_restore 9 = .ok (.ireturn, 1) := by decide +kernel
theorem dX5_restore_10 : decode cX5_restore 10 = .ok (.aload_n 0, 1) := by decide +kernel
theorem dX5_restore_11 : decode cX5_restore 11 = .ok (.invokevirtual 58, 3) := by decide +kernel
theorem dX5_restore_14 : decode cX5_restore 14 = .ok (.aload_n 0, 1) := by decide +kernel
theorem dX5_restore_15 : decode cX5_restore 15 = .ok (.getfield 12, 3) := by decide +kernel
theorem dX5_restore_18 : decode cX5_restore 18 = .ok (.aload_n 0, 1) := by decide +kernel
theorem dX5_restore_19 : decode cX5_restore 19 = .ok (.getfield 19, 3) := by decide +kernel
theorem dX5_restore_22 : decode cX5_restore 22 = .ok (.invokevirtual 98, 3) := by decide +kernel
theorem dX5_restore_25 : decode cX5_restore 25 = .ok (.aload_n 0, 1) := by decide +kernel
theorem dX5_restore_26 : decode cX5_restore 26 = .ok (.getfield 12, 3) := by decide +kernel
theorem dX5_restore_29 : decode cX5_restore 29 = .ok (.getfield 54, 3) := by decide +kernel
theorem dX5_restore_32 : decode cX5_restore 32 = .ok (.ireturn, 1) := by decide +kernel
theorem dX5_page_0 : decode cX5_page 0 = .ok (.aload_n 0, 1) := by decide +kernel
theorem dX5_page_1 : decode cX5_page 1 = .ok (.getfield 12, 3) := by decide +kernel
theorem dX5_page_4 : decode cX5_page 4 = .ok (.iload_n 1, 1) := by decide +kernel
theorem dX5_page_5 : decode cX5_page 5 = .ok (.invokevirtual 65, 3) := by decide +kernel
theorem dX5_page_8 : decode cX5_page 8 = .ok (.ifCond .ne 5, 3) := by decide +kernel
theorem dX5_page_11 : decode cX5_page 11 = .ok (.iconst (-1), 1) := by decide +kernel
theorem dX5_page_12 : decode cX5_page 12 = .ok (.ireturn, 1) := by decide +kernel
theorem dX5_page_13 : decode cX5_page 13 = .ok (.iload_n 2, 1) := by decide +kernel
theorem dX5_page_14 : decode cX5_page 14 = .ok (.tableswitch 186 0 10 #[58, 70, 82, 94, 106, 115, 127, 139, 159, 168, 177], 58) := by decide +kernel
theorem dX5_page_72 : decode cX5_page 72 = .ok (.aload_n 0, 1) := by decide +kernel
theorem dX5_page_73 : decode cX5_page 73 = .ok (.getfield 12, 3) := by decide +kernel
theorem dX5_page_76 : decode cX5_page 76 = .ok (.getfield 82, 3) := by decide +kernel
theorem dX5_page_79 : decode cX5_page 79 = .ok (.iload_n 1, 1) := by decide +kernel
theorem dX5_page_80 : decode cX5_page 80 = .ok (.invokevirtual 72, 3) := by decide +kernel
theorem dX5_page_83 : decode cX5_page 83 = .ok (.ireturn, 1) := by decide +kernel
theorem dX5_page_84 : decode cX5_page 84 = .ok (.aload_n 0, 1) := by decide +kernel
theorem dX5_page_85 : decode cX5_page 85 = .ok (.getfield 12, 3) := by decide +kernel
theorem dX5_page_88 : decode cX5_page 88 = .ok (.getfield 182, 3) := by decide +kernel
theorem dX5_page_91 : decode cX5_page 91 = .ok (.iload_n 1, 1) := by decide +kernel
theorem dX5_page_92 : decode cX5_page 92 = .ok (.invokevirtual 72, 3) := by decide +kernel
theorem dX5_page_95 : decode cX5_page 95 = .ok (.ireturn, 1) := by decide +kernel
theorem dX5_page_96 : decode cX5_page 96 = .ok (.aload_n 0, 1) := by decide +kernel
theorem dX5_page_97 : decode cX5_page 97 = .ok (.getfield 12, 3) := by decide +kernel
theorem dX5_page_100 : decode cX5_page 100 = .ok (.getfield 185, 3) := by decide +kernel
theorem dX5_page_103 : decode cX5_page 103 = .ok (.iload_n 1, 1) := by decide +kernel
theorem dX5_page_104 : decode cX5_page 104 = .ok (.invokevirtual 72, 3) := by decide +kernel
theorem dX5_page_107 : decode cX5_page 107 = .ok (.ireturn, 1) := by decide +kernel
theorem dX5_page_108 : decode cX5_page 108 = .ok (.aload_n 0, 1) := by decide +kernel
theorem dX5_page_109 : decode cX5_page 109 = .ok (.getfield 12, 3) := by decide +kernel
theorem dX5_page_112 : decode cX5_page 112 = .ok (.iload_n 1, 1) := by decide +kernel
theorem dX5_page_113 : decode cX5_page 113 = .ok (.invokevirtual 188, 3) := by decide +kernel
theorem dX5_page_116 : decode cX5_page 116 = .ok (.invokestatic 192, 3) := by decide +kernel
theorem dX5_page_119 : decode cX5_page 119 = .ok (.ireturn, 1) := by decide +kernel
theorem dX5_page_120 : decode cX5_page 120 = .ok (.aload_n 0, 1) := by decide +kernel
theorem dX5_page_121 : decode cX5_page 121 = .ok (.getfield 12, 3) := by decide +kernel
theorem dX5_page_124 : decode cX5_page 124 = .ok (.iload_n 1, 1) := by decide +kernel
theorem dX5_page_125 : decode cX5_page 125 = .ok (.invokevirtual 196, 3) := by decide +kernel
theorem dX5_page_128 : decode cX5_page 128 = .ok (.ireturn, 1) := by decide +kernel
theorem dX5_page_129 : decode cX5_page 129 = .ok (.aload_n 0, 1) := by decide +kernel
theorem dX5_page_130 : decode cX5_page 130 = .ok (.invokevirtual 199, 3) := by decide +kernel
theorem dX5_page_133 : decode cX5_page 133 = .ok (.iload_n 1, 1) := by decide +kernel
theorem dX5_page_134 : decode cX5_page 134 = .ok (.invokevirtual 203, 3) := by decide +kernel
theorem dX5_page_137 : decode cX5_page 137 = .ok (.invokestatic 206, 3) := by decide +kernel
theorem dX5_page_140 : decode cX5_page 140 = .ok (.ireturn, 1) := by decide +kernel
theorem dX5_page_141 : decode cX5_page 141 = .ok (.aload_n 0, 1) := by decide +kernel
theorem dX5_page_142 : decode cX5_page 142 = .ok (.invokevirtual 199, 3) := by decide +kernel
theorem dX5_page_145 : decode cX5_page 145 = .ok (.iload_n 1, 1) := by decide +kernel
theorem dX5_page_146 : decode cX5_page 146 = .ok (.invokevirtual 210, 3) := by decide +kernel
theorem dX5_page_149 : decode cX5_page 149 = .ok (.invokestatic 206, 3) := by decide +kernel
theorem dX5_page_152 : decode cX5_page 152 = .ok (.ireturn, 1) := by decide +kernel
theorem dX5_page_153 : decode cX5_page 153 = .ok (.aload_n 0, 1) := by decide +kernel
theorem dX5_page_154 : decode cX5_page 154 = .ok (.invokevirtual 199, 3) := by decide +kernel
theorem dX5_page_157 : decode cX5_page 157 = .ok (.iload_n 1, 1) := by decide +kernel
theorem dX5_page_158 : decode cX5_page 158 = .ok (.invokevirtual 213, 3) := by decide +kernel
theorem dX5_page_161 : decode cX5_page 161 = .ok (.ifCond .le 7, 3) := by decide +kernel
theorem dX5_page_164 : decode cX5_page 164 = .ok (.iconst 1, 1) := by decide +kernel
theorem dX5_page_165 : decode cX5_page 165 = .ok (.goto 4, 3) := by decide +kernel
theorem dX5_page_168 : decode cX5_page 168 = .ok (.iconst 0, 1) := by decide +kernel
theorem dX5_page_169 : decode cX5_page 169 = .ok (.invokestatic 206, 3) := by decide +kernel
theorem dX5_page_172 : decode cX5_page 172 = .ok (.ireturn, 1) := by decide +kernel
theorem dX5_page_173 : decode cX5_page 173 = .ok (.aload_n 0, 1) := by decide +kernel
theorem dX5_page_174 : decode cX5_page 174 = .ok (.invokevirtual 199, 3) := by decide +kernel
theorem dX5_page_177 : decode cX5_page 177 = .ok (.iload_n 1, 1) := by decide +kernel
theorem dX5_page_178 : decode cX5_page 178 = .ok (.invokevirtual 216, 3) := by decide +kernel
theorem dX5_page_181 : decode cX5_page 181 = .ok (.ireturn, 1) := by decide +kernel
theorem dX5_page_182 : decode cX5_page 182 = .ok (.aload_n 0, 1) := by decide +kernel
theorem dX5_page_183 : decode cX5_page 183 = .ok (.invokevirtual 199, 3) := by decide +kernel
theorem dX5_page_186 : decode cX5_page 186 = .ok (.iload_n 1, 1) := by decide +kernel
theorem dX5_page_187 : decode cX5_page 187 = .ok (.invokevirtual 219, 3) := by decide +kernel
theorem dX5_page_190 : decode cX5_page 190 = .ok (.ireturn, 1) := by decide +kernel
theorem dX5_page_191 : decode cX5_page 191 = .ok (.aload_n 0, 1) := by decide +kernel
theorem dX5_page_192 : decode cX5_page 192 = .ok (.getfield 12, 3) := by decide +kernel
theorem dX5_page_195 : decode cX5_page 195 = .ok (.iload_n 1, 1) := by decide +kernel
theorem dX5_page_196 : decode cX5_page 196 = .ok (.invokevirtual 128, 3) := by decide +kernel
theorem dX5_page_199 : decode cX5_page 199 = .ok (.ireturn, 1) := by decide +kernel
theorem dX5_page_200 : decode cX5_page 200 = .ok (.bipush (-2), 2) := by decide +kernel
theorem dX5_page_202 : decode cX5_page 202 = .ok (.ireturn, 1) := by decide +kernel
theorem dX5_choice_0 : decode cX5_choice 0 = .ok (.aload_n 0, 1) := by decide +kernel
theorem dX5_choice_1 : decode cX5_choice 1 = .ok (.getfield 12, 3) := by decide +kernel
theorem dX5_choice_4 : decode cX5_choice 4 = .ok (.iload_n 1, 1) := by decide +kernel
theorem dX5_choice_5 : decode cX5_choice 5 = .ok (.iload_n 2, 1) := by decide +kernel
theorem dX5_choice_6 : decode cX5_choice 6 = .ok (.invokevirtual 117, 3) := by decide +kernel
theorem dX5_choice_9 : decode cX5_choice 9 = .ok (.ifCond .ne 5, 3) := by decide +kernel
theorem dX5_choice_12 : decode cX5_choice 12 = .ok (.iconst (-1), 1) := by decide +kernel
theorem dX5_choice_13 : decode cX5_choice 13 = .ok (.ireturn, 1) := by decide +kernel
theorem dX5_choice_14 : decode cX5_choice 14 = .ok (.iload_n 1, 1) := by decide +kernel
theorem dX5_choice_15 : decode cX5_choice 15 = .ok (.iload_n 2, 1) := by decide +kernel
theorem dX5_choice_16 : decode cX5_choice 16 = .ok (.invokestatic 222, 3) := by decide +kernel
theorem dX5_choice_19 : decode cX5_choice 19 = .ok (.istore 4, 2) := by decide +kernel
theorem dX5_choice_21 : decode cX5_choice 21 = .ok (.iload_n 3, 1) := by decide +kernel
theorem dX5_choice_22 : decode cX5_choice 22 = .ok (.tableswitch 86 0 3 #[30, 43, 56, 69], 30) := by decide +kernel
theorem dX5_choice_52 : decode cX5_choice 52 = .ok (.aload_n 0, 1) := by decide +kernel
theorem dX5_choice_53 : decode cX5_choice 53 = .ok (.getfield 12, 3) := by decide +kernel
theorem dX5_choice_56 : decode cX5_choice 56 = .ok (.getfield 225, 3) := by decide +kernel
theorem dX5_choice_59 : decode cX5_choice 59 = .ok (.iload 4, 2) := by decide +kernel
theorem dX5_choice_61 : decode cX5_choice 61 = .ok (.invokevirtual 72, 3) := by decide +kernel
theorem dX5_choice_64 : decode cX5_choice 64 = .ok (.ireturn, 1) := by decide +kernel
theorem dX5_choice_65 : decode cX5_choice 65 = .ok (.aload_n 0, 1) := by decide +kernel
theorem dX5_choice_66 : decode cX5_choice 66 = .ok (.getfield 12, 3) := by decide +kernel
theorem dX5_choice_69 : decode cX5_choice 69 = .ok (.getfield 226, 3) := by decide +kernel
theorem dX5_choice_72 : decode cX5_choice 72 = .ok (.iload 4, 2) := by decide +kernel
theorem dX5_choice_74 : decode cX5_choice 74 = .ok (.invokevirtual 72, 3) := by decide +kernel
theorem dX5_choice_77 : decode cX5_choice 77 = .ok (.ireturn, 1) := by decide +kernel
theorem dX5_choice_78 : decode cX5_choice 78 = .ok (.aload_n 0, 1) := by decide +kernel
theorem dX5_choice_79 : decode cX5_choice 79 = .ok (.getfield 12, 3) := by decide +kernel
theorem dX5_choice_82 : decode cX5_choice 82 = .ok (.getfield 227, 3) := by decide +kernel
theorem dX5_choice_85 : decode cX5_choice 85 = .ok (.iload 4, 2) := by decide +kernel
theorem dX5_choice_87 : decode cX5_choice 87 = .ok (.invokevirtual 72, 3) := by decide +kernel
theorem dX5_choice_90 : decode cX5_choice 90 = .ok (.ireturn, 1) := by decide +kernel
theorem dX5_choice_91 : decode cX5_choice 91 = .ok (.aload_n 0, 1) := by decide +kernel
theorem dX5_choice_92 : decode cX5_choice 92 = .ok (.invokevirtual 199, 3) := by decide +kernel
theorem dX5_choice_95 : decode cX5_choice 95 = .ok (.aload_n 0, 1) := by decide +kernel
theorem dX5_choice_96 : decode cX5_choice 96 = .ok (.getfield 12, 3) := by decide +kernel
theorem dX5_choice_99 : decode cX5_choice 99 = .ok (.iload_n 1, 1) := by decide +kernel
theorem dX5_choice_100 : decode cX5_choice 100 = .ok (.iload_n 2, 1) := by decide +kernel
theorem dX5_choice_101 : decode cX5_choice 101 = .ok (.invokevirtual 228, 3) := by decide +kernel
theorem dX5_choice_104 : decode cX5_choice 104 = .ok (.invokestatic 206, 3) := by decide +kernel
theorem dX5_choice_107 : decode cX5_choice 107 = .ok (.ireturn, 1) := by decide +kernel
theorem dX5_choice_108 : decode cX5_choice 108 = .ok (.bipush (-2), 2) := by decide +kernel
theorem dX5_choice_110 : decode cX5_choice 110 = .ok (.ireturn, 1) := by decide +kernel
theorem dX5_reader_0 : decode cX5_reader 0 = .ok (.iload_n 1, 1) := by decide +kernel
theorem dX5_reader_1 : decode cX5_reader 1 = .ok (.invokestatic 131, 3) := by decide +kernel
theorem dX5_reader_4 : decode cX5_reader 4 = .ok (.ifCond .ne 5, 3) := by decide +kernel
theorem dX5_reader_7 : decode cX5_reader 7 = .ok (.iconst (-1), 1) := by decide +kernel
theorem dX5_reader_8 : decode cX5_reader 8 = .ok (.ireturn, 1) := by decide +kernel
theorem dX5_reader_9 : decode cX5_reader 9 = .ok (.iload_n 2, 1) := by decide +kernel
theorem dX5_reader_10 : decode cX5_reader 10 = .ok (.ifCond .lt 8, 3) := by decide +kernel
theorem dX5_reader_13 : decode cX5_reader 13 = .ok (.iload_n 2, 1) := by decide +kernel
theorem dX5_reader_14 : decode cX5_reader 14 = .ok (.iconst 3, 1) := by decide +kernel
theorem dX5_reader_15 : decode cX5_reader 15 = .ok (.if_icmp .le 6, 3) := by decide +kernel
theorem dX5_reader_18 : decode cX5_reader 18 = .ok (.bipush (-2), 2) := by decide +kernel
theorem dX5_reader_20 : decode cX5_reader 20 = .ok (.ireturn, 1) := by decide +kernel
theorem dX5_reader_21 : decode cX5_reader 21 = .ok (.aload_n 0, 1) := by decide +kernel
theorem dX5_reader_22 : decode cX5_reader 22 = .ok (.getfield 12, 3) := by decide +kernel
theorem dX5_reader_25 : decode cX5_reader 25 = .ok (.getfield 151, 3) := by decide +kernel
theorem dX5_reader_28 : decode cX5_reader 28 = .ok (.iload_n 1, 1) := by decide +kernel
theorem dX5_reader_29 : decode cX5_reader 29 = .ok (.invokevirtual 72, 3) := by decide +kernel
theorem dX5_reader_32 : decode cX5_reader 32 = .ok (.istore_n 3, 1) := by decide +kernel
theorem dX5_reader_33 : decode cX5_reader 33 = .ok (.iload_n 3, 1) := by decide +kernel
theorem dX5_reader_34 : decode cX5_reader 34 = .ok (.iconst (-1), 1) := by decide +kernel
theorem dX5_reader_35 : decode cX5_reader 35 = .ok (.if_icmp .ne 6, 3) := by decide +kernel
theorem dX5_reader_38 : decode cX5_reader 38 = .ok (.bipush (-5), 2) := by decide +kernel
theorem dX5_reader_40 : decode cX5_reader 40 = .ok (.ireturn, 1) := by decide +kernel
theorem dX5_reader_41 : decode cX5_reader 41 = .ok (.iload_n 2, 1) := by decide +kernel
theorem dX5_reader_42 : decode cX5_reader 42 = .ok (.tableswitch 45 0 2 #[26, 31, 36], 26) := by decide +kernel
theorem dX5_reader_68 : decode cX5_reader 68 = .ok (.iload_n 3, 1) := by decide +kernel
theorem dX5_reader_69 : decode cX5_reader 69 = .ok (.invokestatic 160, 3) := by decide +kernel
theorem dX5_reader_72 : decode cX5_reader 72 = .ok (.ireturn, 1) := by decide +kernel
theorem dX5_reader_73 : decode cX5_reader 73 = .ok (.iload_n 3, 1) := by decide +kernel
theorem dX5_reader_74 : decode cX5_reader 74 = .ok (.invokestatic 142, 3) := by decide +kernel
theorem dX5_reader_77 : decode cX5_reader 77 = .ok (.ireturn, 1) := by decide +kernel
theorem dX5_reader_78 : decode cX5_reader 78 = .ok (.aload_n 0, 1) := by decide +kernel
theorem dX5_reader_79 : decode cX5_reader 79 = .ok (.getfield 12, 3) := by decide +kernel
theorem dX5_reader_82 : decode cX5_reader 82 = .ok (.iload_n 3, 1) := by decide +kernel
theorem dX5_reader_83 : decode cX5_reader 83 = .ok (.invokevirtual 232, 3) := by decide +kernel
theorem dX5_reader_86 : decode cX5_reader 86 = .ok (.ireturn, 1) := by decide +kernel
theorem dX5_reader_87 : decode cX5_reader 87 = .ok (.aload_n 0, 1) := by decide +kernel
theorem dX5_reader_88 : decode cX5_reader 88 = .ok (.getfield 12, 3) := by decide +kernel
theorem dX5_reader_91 : decode cX5_reader 91 = .ok (.getfield 157, 3) := by decide +kernel
theorem dX5_reader_94 : decode cX5_reader 94 = .ok (.iload_n 1, 1) := by decide +kernel
theorem dX5_reader_95 : decode cX5_reader 95 = .ok (.invokevirtual 72, 3) := by decide +kernel
theorem dX5_reader_98 : decode cX5_reader 98 = .ok (.ireturn, 1) := by decide +kernel
theorem dX5_why_0 : decode cX5_why 0 = .ok (.iload_n 1, 1) := by decide +kernel
theorem dX5_why_1 : decode cX5_why 1 = .ok (.invokestatic 131, 3) := by decide +kernel
theorem dX5_why_4 : decode cX5_why 4 = .ok (.ifCond .ne 5, 3) := by decide +kernel
theorem dX5_why_7 : decode cX5_why 7 = .ok (.iconst (-1), 1) := by decide +kernel
theorem dX5_why_8 : decode cX5_why 8 = .ok (.ireturn, 1) := by decide +kernel
theorem dX5_why_9 : decode cX5_why 9 = .ok (.iload_n 2, 1) := by decide +kernel
theorem dX5_why_10 : decode cX5_why 10 = .ok (.invokestatic 145, 3) := by decide +kernel
theorem dX5_why_13 : decode cX5_why 13 = .ok (.ifCond .ne 6, 3) := by decide +kernel
theorem dX5_why_16 : decode cX5_why 16 = .ok (.bipush (-2), 2) := by decide +kernel
theorem dX5_why_18 : decode cX5_why 18 = .ok (.ireturn, 1) := by decide +kernel
theorem dX5_why_19 : decode cX5_why 19 = .ok (.aload_n 0, 1) := by decide +kernel
theorem dX5_why_20 : decode cX5_why 20 = .ok (.getfield 12, 3) := by decide +kernel
theorem dX5_why_23 : decode cX5_why 23 = .ok (.iload_n 1, 1) := by decide +kernel
theorem dX5_why_24 : decode cX5_why 24 = .ok (.iload_n 2, 1) := by decide +kernel
theorem dX5_why_25 : decode cX5_why 25 = .ok (.invokevirtual 148, 3) := by decide +kernel
theorem dX5_why_28 : decode cX5_why 28 = .ok (.ireturn, 1) := by decide +kernel
theorem dX5_way_0 : decode cX5_way 0 = .ok (.iload_n 1, 1) := by decide +kernel
theorem dX5_way_1 : decode cX5_way 1 = .ok (.ifCond .lt 12, 3) := by decide +kernel
theorem dX5_way_4 : decode cX5_way 4 = .ok (.iload_n 2, 1) := by decide +kernel
theorem dX5_way_5 : decode cX5_way 5 = .ok (.ifCond .lt 8, 3) := by decide +kernel
theorem dX5_way_8 : decode cX5_way 8 = .ok (.iload_n 2, 1) := by decide +kernel
theorem dX5_way_9 : decode cX5_way 9 = .ok (.iconst 2, 1) := by decide +kernel
theorem dX5_way_10 : decode cX5_way 10 = .ok (.if_icmp .le 6, 3) := by decide +kernel
theorem dX5_way_13 : decode cX5_way 13 = .ok (.bipush (-2), 2) := by decide +kernel
theorem dX5_way_15 : decode cX5_way 15 = .ok (.ireturn, 1) := by decide +kernel
theorem dX5_way_16 : decode cX5_way 16 = .ok (.aload_n 0, 1) := by decide +kernel
theorem dX5_way_17 : decode cX5_way 17 = .ok (.invokevirtual 199, 3) := by decide +kernel
theorem dX5_way_20 : decode cX5_way 20 = .ok (.astore_n 3, 1) := by decide +kernel
theorem dX5_way_21 : decode cX5_way 21 = .ok (.iload_n 1, 1) := by decide +kernel
theorem dX5_way_22 : decode cX5_way 22 = .ok (.aload_n 3, 1) := by decide +kernel
theorem dX5_way_23 : decode cX5_way 23 = .ok (.getfield 235, 3) := by decide +kernel
theorem dX5_way_26 : decode cX5_way 26 = .ok (.if_icmp .le 6, 3) := by decide +kernel
theorem dX5_way_29 : decode cX5_way 29 = .ok (.bipush (-5), 2) := by decide +kernel
theorem dX5_way_31 : decode cX5_way 31 = .ok (.ireturn, 1) := by decide +kernel
theorem dX5_way_32 : decode cX5_way 32 = .ok (.iload_n 2, 1) := by decide +kernel
theorem dX5_way_33 : decode cX5_way 33 = .ok (.lookupswitch 51 #[(0, 27), (1, 39)], 27) := by decide +kernel
theorem dX5_way_60 : decode cX5_way 60 = .ok (.aload_n 3, 1) := by decide +kernel
theorem dX5_way_61 : decode cX5_way 61 = .ok (.getfield 238, 3) := by decide +kernel
theorem dX5_way_64 : decode cX5_way 64 = .ok (.iload_n 1, 1) := by decide +kernel
theorem dX5_way_65 : decode cX5_way 65 = .ok (.invokevirtual 72, 3) := by decide +kernel
theorem dX5_way_68 : decode cX5_way 68 = .ok (.invokestatic 160, 3) := by decide +kernel
theorem dX5_way_71 : decode cX5_way 71 = .ok (.ireturn, 1) := by decide +kernel
theorem dX5_way_72 : decode cX5_way 72 = .ok (.aload_n 3, 1) := by decide +kernel
theorem dX5_way_73 : decode cX5_way 73 = .ok (.getfield 238, 3) := by decide +kernel
theorem dX5_way_76 : decode cX5_way 76 = .ok (.iload_n 1, 1) := by decide +kernel
theorem dX5_way_77 : decode cX5_way 77 = .ok (.invokevirtual 72, 3) := by decide +kernel
theorem dX5_way_80 : decode cX5_way 80 = .ok (.invokestatic 142, 3) := by decide +kernel
theorem dX5_way_83 : decode cX5_way 83 = .ok (.ireturn, 1) := by decide +kernel
theorem dX5_way_84 : decode cX5_way 84 = .ok (.aload_n 3, 1) := by decide +kernel
theorem dX5_way_85 : decode cX5_way 85 = .ok (.iload_n 1, 1) := by decide +kernel
theorem dX5_way_86 : decode cX5_way 86 = .ok (.invokevirtual 241, 3) := by decide +kernel
theorem dX5_way_89 : decode cX5_way 89 = .ok (.ireturn, 1) := by decide +kernel
theorem dX5_wayMood_0 : decode cX5_wayMood 0 = .ok (.aload_n 0, 1) := by decide +kernel
theorem dX5_wayMood_1 : decode cX5_wayMood 1 = .ok (.invokevirtual 199, 3) := by decide +kernel
theorem dX5_wayMood_4 : decode cX5_wayMood 4 = .ok (.astore_n 1, 1) := by decide +kernel
theorem dX5_wayMood_5 : decode cX5_wayMood 5 = .ok (.aload_n 1, 1) := by decide +kernel
theorem dX5_wayMood_6 : decode cX5_wayMood 6 = .ok (.getfield 235, 3) := by decide +kernel
theorem dX5_wayMood_9 : decode cX5_wayMood 9 = .ok (.ifCond .ge 6, 3) := by decide +kernel
theorem dX5_wayMood_12 : decode cX5_wayMood 12 = .ok (.bipush (-5), 2) := by decide +kernel
theorem dX5_wayMood_14 : decode cX5_wayMood 14 = .ok (.ireturn, 1) := by decide +kernel
theorem dX5_wayMood_15 : decode cX5_wayMood 15 = .ok (.fconst 0, 1) := by decide +kernel
theorem dX5_wayMood_16 : decode cX5_wayMood 16 = .ok (.fstore_n 2, 1) := by decide +kernel
theorem dX5_wayMood_17 : decode cX5_wayMood 17 = .ok (.iconst 0, 1) := by decide +kernel
theorem dX5_wayMood_18 : decode cX5_wayMood 18 = .ok (.istore_n 3, 1) := by decide +kernel
theorem dX5_wayMood_19 : decode cX5_wayMood 19 = .ok (.iload_n 3, 1) := by decide +kernel
theorem dX5_wayMood_20 : decode cX5_wayMood 20 = .ok (.aload_n 1, 1) := by decide +kernel
theorem dX5_wayMood_21 : decode cX5_wayMood 21 = .ok (.getfield 235, 3) := by decide +kernel
theorem dX5_wayMood_24 : decode cX5_wayMood 24 = .ok (.if_icmp .gt 37, 3) := by decide +kernel
theorem dX5_wayMood_27 : decode cX5_wayMood 27 = .ok (.iload_n 3, 1) := by decide +kernel
theorem dX5_wayMood_28 : decode cX5_wayMood 28 = .ok (.sipush 1024, 3) := by decide +kernel
theorem dX5_wayMood_31 : decode cX5_wayMood 31 = .ok (.if_icmp .ge 30, 3) := by decide +kernel
theorem dX5_wayMood_34 : decode cX5_wayMood 34 = .ok (.fload_n 2, 1) := by decide +kernel
theorem dX5_wayMood_35 : decode cX5_wayMood 35 = .ok (.aload_n 0, 1) := by decide +kernel
theorem dX5_wayMood_36 : decode cX5_wayMood 36 = .ok (.getfield 12, 3) := by decide +kernel
theorem dX5_wayMood_39 : decode cX5_wayMood 39 = .ok (.aload_n 1, 1) := by decide +kernel
theorem dX5_wayMood_40 : decode cX5_wayMood 40 = .ok (.getfield 238, 3) := by decide +kernel
theorem dX5_wayMood_43 : decode cX5_wayMood 43 = .ok (.iload_n 3, 1) := by decide +kernel
theorem dX5_wayMood_44 : decode cX5_wayMood 44 = .ok (.invokevirtual 72, 3) := by decide +kernel
theorem dX5_wayMood_47 : decode cX5_wayMood 47 = .ok (.invokestatic 160, 3) := by decide +kernel
theorem dX5_wayMood_50 : decode cX5_wayMood 50 = .ok (.invokevirtual 188, 3) := by decide +kernel
theorem dX5_wayMood_53 : decode cX5_wayMood 53 = .ok (.fadd, 1) := by decide +kernel
theorem dX5_wayMood_54 : decode cX5_wayMood 54 = .ok (.fstore_n 2, 1) := by decide +kernel
theorem dX5_wayMood_55 : decode cX5_wayMood 55 = .ok (.iinc 3 1, 3) := by decide +kernel
theorem dX5_wayMood_58 : decode cX5_wayMood 58 = .ok (.goto (-39), 3) := by decide +kernel
theorem dX5_wayMood_61 : decode cX5_wayMood 61 = .ok (.fload_n 2, 1) := by decide +kernel
theorem dX5_wayMood_62 : decode cX5_wayMood 62 = .ok (.invokestatic 192, 3) := by decide +kernel
theorem dX5_wayMood_65 : decode cX5_wayMood 65 = .ok (.ireturn, 1) := by decide +kernel
theorem dX5_count_0 : decode cX5_count 0 = .ok (.iload_n 1, 1) := by decide +kernel
theorem dX5_count_1 : decode cX5_count 1 = .ok (.tableswitch 200 0 11 #[63, 71, 79, 87, 95, 103, 111, 126, 141, 164, 184, 192], 63) := by decide +kernel
theorem dX5_count_64 : decode cX5_count 64 = .ok (.aload_n 0, 1) := by decide +kernel
theorem dX5_count_65 : decode cX5_count 65 = .ok (.getfield 12, 3) := by decide +kernel
theorem dX5_count_68 : decode cX5_count 68 = .ok (.getfield 54, 3) := by decide +kernel
theorem dX5_count_71 : decode cX5_count 71 = .ok (.ireturn, 1) := by decide +kernel
theorem dX5_count_72 : decode cX5_count 72 = .ok (.aload_n 0, 1) := by decide +kernel
theorem dX5_count_73 : decode cX5_count 73 = .ok (.getfield 12, 3) := by decide +kernel
theorem dX5_count_76 : decode cX5_count 76 = .ok (.invokevirtual 244, 3) := by decide +kernel
theorem dX5_count_79 : decode cX5_count 79 = .ok (.ireturn, 1) := by decide +kernel
theorem dX5_count_80 : decode cX5_count 80 = .ok (.aload_n 0, 1) := by decide +kernel
theorem dX5_count_81 : decode cX5_count 81 = .ok (.invokevirtual 199, 3) := by decide +kernel
theorem dX5_count_84 : decode cX5_count 84 = .ok (.invokevirtual 247, 3) := by decide +kernel
theorem dX5_count_87 : decode cX5_count 87 = .ok (.ireturn, 1) := by decide +kernel
theorem dX5_count_88 : decode cX5_count 88 = .ok (.aload_n 0, 1) := by decide +kernel
theorem dX5_count_89 : decode cX5_count 89 = .ok (.invokevirtual 199, 3) := by decide +kernel
theorem dX5_count_92 : decode cX5_count 92 = .ok (.invokevirtual 250, 3) := by decide +kernel
theorem dX5_count_95 : decode cX5_count 95 = .ok (.ireturn, 1) := by decide +kernel
theorem dX5_count_96 : decode cX5_count 96 = .ok (.aload_n 0, 1) := by decide +kernel
theorem dX5_count_97 : decode cX5_count 97 = .ok (.invokevirtual 199, 3) := by decide +kernel
theorem dX5_count_100 : decode cX5_count 100 = .ok (.invokevirtual 253, 3) := by decide +kernel
theorem dX5_count_103 : decode cX5_count 103 = .ok (.ireturn, 1) := by decide +kernel
theorem dX5_count_104 : decode cX5_count 104 = .ok (.aload_n 0, 1) := by decide +kernel
theorem dX5_count_105 : decode cX5_count 105 = .ok (.invokevirtual 199, 3) := by decide +kernel
theorem dX5_count_108 : decode cX5_count 108 = .ok (.getfield 256, 3) := by decide +kernel
theorem dX5_count_111 : decode cX5_count 111 = .ok (.ireturn, 1) := by decide +kernel
theorem dX5_count_112 : decode cX5_count 112 = .ok (.aload_n 0, 1) := by decide +kernel
theorem dX5_count_113 : decode cX5_count 113 = .ok (.invokevirtual 199, 3) := by decide +kernel
theorem dX5_count_116 : decode cX5_count 116 = .ok (.aload_n 0, 1) := by decide +kernel
theorem dX5_count_117 : decode cX5_count 117 = .ok (.invokevirtual 199, 3) := by decide +kernel
theorem dX5_count_120 : decode cX5_count 120 = .ok (.getfield 259, 3) := by decide +kernel
theorem dX5_count_123 : decode cX5_count 123 = .ok (.invokevirtual 262, 3) := by decide +kernel
theorem dX5_count_126 : decode cX5_count 126 = .ok (.ireturn, 1) := by decide +kernel
theorem dX5_count_127 : decode cX5_count 127 = .ok (.aload_n 0, 1) := by decide +kernel
theorem dX5_count_128 : decode cX5_count 128 = .ok (.invokevirtual 199, 3) := by decide +kernel
theorem dX5_count_131 : decode cX5_count 131 = .ok (.aload_n 0, 1) := by decide +kernel
theorem dX5_count_132 : decode cX5_count 132 = .ok (.invokevirtual 199, 3) := by decide +kernel
theorem dX5_count_135 : decode cX5_count 135 = .ok (.getfield 265, 3) := by decide +kernel
theorem dX5_count_138 : decode cX5_count 138 = .ok (.invokevirtual 262, 3) := by decide +kernel
theorem dX5_count_141 : decode cX5_count 141 = .ok (.ireturn, 1) := by decide +kernel
theorem dX5_count_142 : decode cX5_count 142 = .ok (.aload_n 0, 1) := by decide +kernel
theorem dX5_count_143 : decode cX5_count 143 = .ok (.invokevirtual 199, 3) := by decide +kernel
theorem dX5_count_146 : decode cX5_count 146 = .ok (.getfield 235, 3) := by decide +kernel
theorem dX5_count_149 : decode cX5_count 149 = .ok (.ifCond .ge 8, 3) := by decide +kernel
theorem dX5_count_152 : decode cX5_count 152 = .ok (.bipush (-5), 2) := by decide +kernel
theorem dX5_count_154 : decode cX5_count 154 = .ok (.goto 10, 3) := by decide +kernel
theorem dX5_count_157 : decode cX5_count 157 = .ok (.aload_n 0, 1) := by decide +kernel
theorem dX5_count_158 : decode cX5_count 158 = .ok (.invokevirtual 199, 3) := by decide +kernel
theorem dX5_count_161 : decode cX5_count 161 = .ok (.getfield 235, 3) := by decide +kernel
theorem dX5_count_164 : decode cX5_count 164 = .ok (.ireturn, 1) := by decide +kernel
theorem dX5_count_165 : decode cX5_count 165 = .ok (.aload_n 0, 1) := by decide +kernel
theorem dX5_count_166 : decode cX5_count 166 = .ok (.getfield 12, 3) := by decide +kernel
theorem dX5_count_169 : decode cX5_count 169 = .ok (.getfield 163, 3) := by decide +kernel
theorem dX5_count_172 : decode cX5_count 172 = .ok (.iconst (-1), 1) := by decide +kernel
theorem dX5_count_173 : decode cX5_count 173 = .ok (.if_icmp .eq 7, 3) := by decide +kernel
theorem dX5_count_176 : decode cX5_count 176 = .ok (.iconst 1, 1) := by decide +kernel
theorem dX5_count_177 : decode cX5_count 177 = .ok (.goto 4, 3) := by decide +kernel
theorem dX5_count_180 : decode cX5_count 180 = .ok (.iconst 0, 1) := by decide +kernel
theorem dX5_count_181 : decode cX5_count 181 = .ok (.invokestatic 206, 3) := by decide +kernel
theorem dX5_count_184 : decode cX5_count 184 = .ok (.ireturn, 1) := by decide +kernel
theorem dX5_count_185 : decode cX5_count 185 = .ok (.aload_n 0, 1) := by decide +kernel
theorem dX5_count_186 : decode cX5_count 186 = .ok (.getfield 29, 3) := by decide +kernel
theorem dX5_count_189 : decode cX5_count 189 = .ok (.getfield 173, 3) := by decide +kernel
theorem dX5_count_192 : decode cX5_count 192 = .ok (.ireturn, 1) := by decide +kernel
theorem dX5_count_193 : decode cX5_count 193 = .ok (.aload_n 0, 1) := by decide +kernel
theorem dX5_count_194 : decode cX5_count 194 = .ok (.getfield 36, 3) := by decide +kernel
theorem dX5_count_197 : decode cX5_count 197 = .ok (.getfield 166, 3) := by decide +kernel
theorem dX5_count_200 : decode cX5_count 200 = .ok (.ireturn, 1) := by decide +kernel
theorem dX5_count_201 : decode cX5_count 201 = .ok (.bipush (-2), 2) := by decide +kernel
theorem dX5_count_203 : decode cX5_count 203 = .ok (.ireturn, 1) := by decide +kernel
theorem dX5_record_0 : decode cX5_record 0 = .ok (.aload_n 0, 1) := by decide +kernel
theorem dX5_record_1 : decode cX5_record 1 = .ok (.getfield 29, 3) := by decide +kernel
theorem dX5_record_4 : decode cX5_record 4 = .ok (.aload_n 0, 1) := by decide +kernel
theorem dX5_record_5 : decode cX5_record 5 = .ok (.getfield 12, 3) := by decide +kernel
theorem dX5_record_8 : decode cX5_record 8 = .ok (.invokevirtual 268, 3) := by decide +kernel
theorem dX5_record_11 : decode cX5_record 11 = .ok (.aload_n 0, 1) := by decide +kernel
theorem dX5_record_12 : decode cX5_record 12 = .ok (.getfield 43, 3) := by decide +kernel
theorem dX5_record_15 : decode cX5_record 15 = .ok (.iconst 0, 1) := by decide +kernel
theorem dX5_record_16 : decode cX5_record 16 = .ok (.putfield 179, 3) := by decide +kernel
theorem dX5_record_19 : decode cX5_record 19 = .ok (.return_, 1) := by decide +kernel
theorem dX5_surveyed_0 : decode cX5_surveyed 0 = .ok (.aload_n 0, 1) := by decide +kernel
theorem dX5_surveyed_1 : decode cX5_surveyed 1 = .ok (.getfield 43, 3) := by decide +kernel
theorem dX5_surveyed_4 : decode cX5_surveyed 4 = .ok (.getfield 179, 3) := by decide +kernel
theorem dX5_surveyed_7 : decode cX5_surveyed 7 = .ok (.ifCond .ne 14, 3) := by decide +kernel
theorem dX5_surveyed_10 : decode cX5_surveyed 10 = .ok (.aload_n 0, 1) := by decide +kernel
theorem dX5_surveyed_11 : decode cX5_surveyed 11 = .ok (.getfield 43, 3) := by decide +kernel
theorem dX5_surveyed_14 : decode cX5_surveyed 14 = .ok (.aload_n 0, 1) := by decide +kernel
theorem dX5_surveyed_15 : decode cX5_surveyed 15 = .ok (.getfield 12, 3) := by decide +kernel
theorem dX5_surveyed_18 : decode cX5_surveyed 18 = .ok (.invokevirtual 271, 3) := by decide +kernel
theorem dX5_surveyed_21 : decode cX5_surveyed 21 = .ok (.aload_n 0, 1) := by decide +kernel
theorem dX5_surveyed_22 : decode cX5_surveyed 22 = .ok (.getfield 43, 3) := by decide +kernel
theorem dX5_surveyed_25 : decode cX5_surveyed 25 = .ok (.areturn, 1) := by decide +kernel
theorem dX5_isMood_0 : decode cX5_isMood 0 = .ok (.iload_n 0, 1) := by decide +kernel
theorem dX5_isMood_1 : decode cX5_isMood 1 = .ok (.bipush (-99), 2) := by decide +kernel
theorem dX5_isMood_3 : decode cX5_isMood 3 = .ok (.if_icmp .lt 13, 3) := by decide +kernel
theorem dX5_isMood_6 : decode cX5_isMood 6 = .ok (.iload_n 0, 1) := by decide +kernel
theorem dX5_isMood_7 : decode cX5_isMood 7 = .ok (.bipush 99, 2) := by decide +kernel
theorem dX5_isMood_9 : decode cX5_isMood 9 = .ok (.if_icmp .gt 7, 3) := by decide +kernel
theorem dX5_isMood_12 : decode cX5_isMood 12 = .ok (.iconst 1, 1) := by decide +kernel
theorem dX5_isMood_13 : decode cX5_isMood 13 = .ok (.goto 4, 3) := by decide +kernel
theorem dX5_isMood_16 : decode cX5_isMood 16 = .ok (.iconst 0, 1) := by decide +kernel
theorem dX5_isMood_17 : decode cX5_isMood 17 = .ok (.ireturn, 1) := by decide +kernel
theorem dX5_isFlagSet_0 : decode cX5_isFlagSet 0 = .ok (.iload_n 0, 1) := by decide +kernel
theorem dX5_isFlagSet_1 : decode cX5_isFlagSet 1 = .ok (.ifCond .lt 13, 3) := by decide +kernel
theorem dX5_isFlagSet_4 : decode cX5_isFlagSet 4 = .ok (.iload_n 0, 1) := by decide +kernel
theorem dX5_isFlagSet_5 : decode cX5_isFlagSet 5 = .ok (.bipush 32, 2) := by decide +kernel
theorem dX5_isFlagSet_7 : decode cX5_isFlagSet 7 = .ok (.if_icmp .ge 7, 3) := by decide +kernel
theorem dX5_isFlagSet_10 : decode cX5_isFlagSet 10 = .ok (.iconst 1, 1) := by decide +kernel
theorem dX5_isFlagSet_11 : decode cX5_isFlagSet 11 = .ok (.goto 4, 3) := by decide +kernel
theorem dX5_isFlagSet_14 : decode cX5_isFlagSet 14 = .ok (.iconst 0, 1) := by decide +kernel
theorem dX5_isFlagSet_15 : decode cX5_isFlagSet 15 = .ok (.ireturn, 1) := by decide +kernel
theorem dX5_isReader_0 : decode cX5_isReader 0 = .ok (.iload_n 0, 1) := by decide +kernel
theorem dX5_isReader_1 : decode cX5_isReader 1 = .ok (.ifCond .lt 12, 3) := by decide +kernel
theorem dX5_isReader_4 : decode cX5_isReader 4 = .ok (.iload_n 0, 1) := by decide +kernel
theorem dX5_isReader_5 : decode cX5_isReader 5 = .ok (.iconst 2, 1) := by decide +kernel
theorem dX5_isReader_6 : decode cX5_isReader 6 = .ok (.if_icmp .ge 7, 3) := by decide +kernel
theorem dX5_isReader_9 : decode cX5_isReader 9 = .ok (.iconst 1, 1) := by decide +kernel
theorem dX5_isReader_10 : decode cX5_isReader 10 = .ok (.goto 4, 3) := by decide +kernel
theorem dX5_isReader_13 : decode cX5_isReader 13 = .ok (.iconst 0, 1) := by decide +kernel
theorem dX5_isReader_14 : decode cX5_isReader 14 = .ok (.ireturn, 1) := by decide +kernel
theorem dX5_isChoiceNumber_0 : decode cX5_isChoiceNumber 0 = .ok (.iload_n 0, 1) := by decide +kernel
theorem dX5_isChoiceNumber_1 : decode cX5_isChoiceNumber 1 = .ok (.ifCond .lt 12, 3) := by decide +kernel
theorem dX5_isChoiceNumber_4 : decode cX5_isChoiceNumber 4 = .ok (.iload_n 0, 1) := by decide +kernel
theorem dX5_isChoiceNumber_5 : decode cX5_isChoiceNumber 5 = .ok (.iconst 3, 1) := by decide +kernel
theorem dX5_isChoiceNumber_6 : decode cX5_isChoiceNumber 6 = .ok (.if_icmp .ge 7, 3) := by decide +kernel
theorem dX5_isChoiceNumber_9 : decode cX5_isChoiceNumber 9 = .ok (.iconst 1, 1) := by decide +kernel
theorem dX5_isChoiceNumber_10 : decode cX5_isChoiceNumber 10 = .ok (.goto 4, 3) := by decide +kernel
theorem dX5_isChoiceNumber_13 : decode cX5_isChoiceNumber 13 = .ok (.iconst 0, 1) := by decide +kernel
theorem dX5_isChoiceNumber_14 : decode cX5_isChoiceNumber 14 = .ok (.ireturn, 1) := by decide +kernel
theorem dX5_oneIf_0 : decode cX5_oneIf 0 = .ok (.iload_n 0, 1) := by decide +kernel
theorem dX5_oneIf_1 : decode cX5_oneIf 1 = .ok (.ifCond .eq 7, 3) := by decide +kernel
theorem dX5_oneIf_4 : decode cX5_oneIf 4 = .ok (.iconst 1, 1) := by decide +kernel
theorem dX5_oneIf_5 : decode cX5_oneIf 5 = .ok (.goto 4, 3) := by decide +kernel
theorem dX5_oneIf_8 : decode cX5_oneIf 8 = .ok (.iconst 0, 1) := by decide +kernel
theorem dX5_oneIf_9 : decode cX5_oneIf 9 = .ok (.ireturn, 1) := by decide +kernel
theorem dX5_slotOf_0 : decode cX5_slotOf 0 = .ok (.iload_n 0, 1) := by decide +kernel
theorem dX5_slotOf_1 : decode cX5_slotOf 1 = .ok (.iconst 3, 1) := by decide +kernel
theorem dX5_slotOf_2 : decode cX5_slotOf 2 = .ok (.imul, 1) := by decide +kernel
theorem dX5_slotOf_3 : decode cX5_slotOf 3 = .ok (.iload_n 1, 1) := by decide +kernel
theorem dX5_slotOf_4 : decode cX5_slotOf 4 = .ok (.iadd, 1) := by decide +kernel
theorem dX5_slotOf_5 : decode cX5_slotOf 5 = .ok (.ireturn, 1) := by decide +kernel
theorem dX5_placeOf_0 : decode cX5_placeOf 0 = .ok (.iload_n 0, 1) := by decide +kernel
theorem dX5_placeOf_1 : decode cX5_placeOf 1 = .ok (.bipush 32, 2) := by decide +kernel
theorem dX5_placeOf_3 : decode cX5_placeOf 3 = .ok (.imul, 1) := by decide +kernel
theorem dX5_placeOf_4 : decode cX5_placeOf 4 = .ok (.iload_n 1, 1) := by decide +kernel
theorem dX5_placeOf_5 : decode cX5_placeOf 5 = .ok (.iadd, 1) := by decide +kernel
theorem dX5_placeOf_6 : decode cX5_placeOf 6 = .ok (.ireturn, 1) := by decide +kernel
theorem dX5_pageAt_0 : decode cX5_pageAt 0 = .ok (.iload_n 0, 1) := by decide +kernel
theorem dX5_pageAt_1 : decode cX5_pageAt 1 = .ok (.iconst 5, 1) := by decide +kernel
theorem dX5_pageAt_2 : decode cX5_pageAt 2 = .ok (.ishr, 1) := by decide +kernel
theorem dX5_pageAt_3 : decode cX5_pageAt 3 = .ok (.ireturn, 1) := by decide +kernel
theorem dX5_flagsAt_0 : decode cX5_flagsAt 0 = .ok (.iload_n 0, 1) := by decide +kernel
theorem dX5_flagsAt_1 : decode cX5_flagsAt 1 = .ok (.bipush 31, 2) := by decide +kernel
theorem dX5_flagsAt_3 : decode cX5_flagsAt 3 = .ok (.iand, 1) := by decide +kernel
theorem dX5_flagsAt_4 : decode cX5_flagsAt 4 = .ok (.ireturn, 1) := by decide +kernel
theorem dX5_bitsOf_0 : decode cX5_bitsOf 0 = .ok (.fload_n 0, 1) := by decide +kernel
theorem dX5_bitsOf_1 : decode cX5_bitsOf 1 = .ok (.fconst 0, 1) := by decide +kernel
theorem dX5_bitsOf_2 : decode cX5_bitsOf 2 = .ok (.fcmp .l, 1) := by decide +kernel
theorem dX5_bitsOf_3 : decode cX5_bitsOf 3 = .ok (.ifCond .ne 5, 3) := by decide +kernel
theorem dX5_bitsOf_6 : decode cX5_bitsOf 6 = .ok (.iconst 0, 1) := by decide +kernel
theorem dX5_bitsOf_7 : decode cX5_bitsOf 7 = .ok (.ireturn, 1) := by decide +kernel
theorem dX5_bitsOf_8 : decode cX5_bitsOf 8 = .ok (.fload_n 0, 1) := by decide +kernel
theorem dX5_bitsOf_9 : decode cX5_bitsOf 9 = .ok (.fconst 0, 1) := by decide +kernel
theorem dX5_bitsOf_10 : decode cX5_bitsOf 10 = .ok (.fcmp .g, 1) := by decide +kernel
theorem dX5_bitsOf_11 : decode cX5_bitsOf 11 = .ok (.ifCond .ge 9, 3) := by decide +kernel
theorem dX5_bitsOf_14 : decode cX5_bitsOf 14 = .ok (.ldc_w 274, 3) := by decide +kernel
theorem dX5_bitsOf_17 : decode cX5_bitsOf 17 = .ok (.goto 4, 3) := by decide +kernel
theorem dX5_bitsOf_20 : decode cX5_bitsOf 20 = .ok (.iconst 0, 1) := by decide +kernel
theorem dX5_bitsOf_21 : decode cX5_bitsOf 21 = .ok (.istore_n 1, 1) := by decide +kernel
theorem dX5_bitsOf_22 : decode cX5_bitsOf 22 = .ok (.fload_n 0, 1) := by decide +kernel
theorem dX5_bitsOf_23 : decode cX5_bitsOf 23 = .ok (.fconst 0, 1) := by decide +kernel
theorem dX5_bitsOf_24 : decode cX5_bitsOf 24 = .ok (.fcmp .g, 1) := by decide +kernel
theorem dX5_bitsOf_25 : decode cX5_bitsOf 25 = .ok (.ifCond .ge 8, 3) := by decide +kernel
theorem dX5_bitsOf_28 : decode cX5_bitsOf 28 = .ok (.fload_n 0, 1) := by decide +kernel
theorem dX5_bitsOf_29 : decode cX5_bitsOf 29 = .ok (.fneg, 1) := by decide +kernel
theorem dX5_bitsOf_30 : decode cX5_bitsOf 30 = .ok (.goto 4, 3) := by decide +kernel
theorem dX5_bitsOf_33 : decode cX5_bitsOf 33 = .ok (.fload_n 0, 1) := by decide +kernel
theorem dX5_bitsOf_34 : decode cX5_bitsOf 34 = .ok (.fstore_n 2, 1) := by decide +kernel
theorem dX5_bitsOf_35 : decode cX5_bitsOf 35 = .ok (.sipush 150, 3) := by decide +kernel
theorem dX5_bitsOf_38 : decode cX5_bitsOf 38 = .ok (.istore_n 3, 1) := by decide +kernel
theorem dX5_bitsOf_39 : decode cX5_bitsOf 39 = .ok (.iconst 0, 1) := by decide +kernel
theorem dX5_bitsOf_40 : decode cX5_bitsOf 40 = .ok (.istore 4, 2) := by decide +kernel
theorem dX5_bitsOf_42 : decode cX5_bitsOf 42 = .ok (.iload 4, 2) := by decide +kernel
theorem dX5_bitsOf_44 : decode cX5_bitsOf 44 = .ok (.sipush 150, 3) := by decide +kernel
theorem dX5_bitsOf_47 : decode cX5_bitsOf 47 = .ok (.if_icmp .ge 24, 3) := by decide +kernel
theorem dX5_bitsOf_50 : decode cX5_bitsOf 50 = .ok (.fload_n 2, 1) := by decide +kernel
theorem dX5_bitsOf_51 : decode cX5_bitsOf 51 = .ok (.ldc_w 275, 3) := by decide +kernel
theorem dX5_bitsOf_54 : decode cX5_bitsOf 54 = .ok (.fcmp .g, 1) := by decide +kernel
theorem dX5_bitsOf_55 : decode cX5_bitsOf 55 = .ok (.ifCond .ge 16, 3) := by decide +kernel
theorem dX5_bitsOf_58 : decode cX5_bitsOf 58 = .ok (.fload_n 2, 1) := by decide +kernel
theorem dX5_bitsOf_59 : decode cX5_bitsOf 59 = .ok (.fconst 2, 1) := by decide +kernel
theorem dX5_bitsOf_60 : decode cX5_bitsOf 60 = .ok (.fmul, 1) := by decide +kernel
theorem dX5_bitsOf_61 : decode cX5_bitsOf 61 = .ok (.fstore_n 2, 1) := by decide +kernel
theorem dX5_bitsOf_62 : decode cX5_bitsOf 62 = .ok (.iinc 3 (-1), 3) := by decide +kernel
theorem dX5_bitsOf_65 : decode cX5_bitsOf 65 = .ok (.iinc 4 1, 3) := by decide +kernel
theorem dX5_bitsOf_68 : decode cX5_bitsOf 68 = .ok (.goto (-26), 3) := by decide +kernel
theorem dX5_bitsOf_71 : decode cX5_bitsOf 71 = .ok (.iload_n 1, 1) := by decide +kernel
theorem dX5_bitsOf_72 : decode cX5_bitsOf 72 = .ok (.iload_n 3, 1) := by decide +kernel
theorem dX5_bitsOf_73 : decode cX5_bitsOf 73 = .ok (.bipush 23, 2) := by decide +kernel
theorem dX5_bitsOf_75 : decode cX5_bitsOf 75 = .ok (.ishl, 1) := by decide +kernel
theorem dX5_bitsOf_76 : decode cX5_bitsOf 76 = .ok (.ior, 1) := by decide +kernel
theorem dX5_bitsOf_77 : decode cX5_bitsOf 77 = .ok (.fload_n 2, 1) := by decide +kernel
theorem dX5_bitsOf_78 : decode cX5_bitsOf 78 = .ok (.f2i, 1) := by decide +kernel
theorem dX5_bitsOf_79 : decode cX5_bitsOf 79 = .ok (.ldc_w 276, 3) := by decide +kernel
theorem dX5_bitsOf_82 : decode cX5_bitsOf 82 = .ok (.isub, 1) := by decide +kernel
theorem dX5_bitsOf_83 : decode cX5_bitsOf 83 = .ok (.ior, 1) := by decide +kernel
theorem dX5_bitsOf_84 : decode cX5_bitsOf 84 = .ok (.ireturn, 1) := by decide +kernel
theorem dX6_init_0 : decode cX6_init 0 = .ok (.aload_n 0, 1) := by decide +kernel
theorem dX6_init_1 : decode cX6_init 1 = .ok (.invokespecial 1, 3) := by decide +kernel
theorem dX6_init_4 : decode cX6_init 4 = .ok (.aload_n 0, 1) := by decide +kernel
theorem dX6_init_5 : decode cX6_init 5 = .ok (.sipush 425, 3) := by decide +kernel
theorem dX6_init_8 : decode cX6_init 8 = .ok (.newarray .int, 2) := by decide +kernel
theorem dX6_init_10 : decode cX6_init 10 = .ok (.putfield 7, 3) := by decide +kernel
theorem dX6_init_13 : decode cX6_init 13 = .ok (.aload_n 0, 1) := by decide +kernel
theorem dX6_init_14 : decode cX6_init 14 = .ok (.sipush 425, 3) := by decide +kernel
theorem dX6_init_17 : decode cX6_init 17 = .ok (.newarray .int, 2) := by decide +kernel
theorem dX6_init_19 : decode cX6_init 19 = .ok (.putfield 13, 3) := by decide +kernel
theorem dX6_init_22 : decode cX6_init 22 = .ok (.aload_n 0, 1) := by decide +kernel
theorem dX6_init_23 : decode cX6_init 23 = .ok (.sipush 1700, 3) := by decide +kernel
theorem dX6_init_26 : decode cX6_init 26 = .ok (.newarray .int, 2) := by decide +kernel
theorem dX6_init_28 : decode cX6_init 28 = .ok (.putfield 16, 3) := by decide +kernel
theorem dX6_init_31 : decode cX6_init 31 = .ok (.aload_n 0, 1) := by decide +kernel
theorem dX6_init_32 : decode cX6_init 32 = .ok (.bipush 60, 2) := by decide +kernel
theorem dX6_init_34 : decode cX6_init 34 = .ok (.newarray .int, 2) := by decide +kernel
theorem dX6_init_36 : decode cX6_init 36 = .ok (.putfield 19, 3) := by decide +kernel
theorem dX6_init_39 : decode cX6_init 39 = .ok (.aload_n 0, 1) := by decide +kernel
theorem dX6_init_40 : decode cX6_init 40 = .ok (.sipush 1024, 3) := by decide +kernel
theorem dX6_init_43 : decode cX6_init 43 = .ok (.newarray .int, 2) := by decide +kernel
theorem dX6_init_45 : decode cX6_init 45 = .ok (.putfield 22, 3) := by decide +kernel
theorem dX6_init_48 : decode cX6_init 48 = .ok (.aload_n 0, 1) := by decide +kernel
theorem dX6_init_49 : decode cX6_init 49 = .ok (.sipush 1024, 3) := by decide +kernel
theorem dX6_init_52 : decode cX6_init 52 = .ok (.newarray .int, 2) := by decide +kernel
theorem dX6_init_54 : decode cX6_init 54 = .ok (.putfield 25, 3) := by decide +kernel
theorem dX6_init_57 : decode cX6_init 57 = .ok (.aload_n 0, 1) := by decide +kernel
theorem dX6_init_58 : decode cX6_init 58 = .ok (.sipush 1024, 3) := by decide +kernel
theorem dX6_init_61 : decode cX6_init 61 = .ok (.newarray .int, 2) := by decide +kernel
theorem dX6_init_63 : decode cX6_init 63 = .ok (.putfield 28, 3) := by decide +kernel
theorem dX6_init_66 : decode cX6_init 66 = .ok (.aload_n 0, 1) := by decide +kernel
theorem dX6_init_67 : decode cX6_init 67 = .ok (.sipush 1024, 3) := by decide +kernel
theorem dX6_init_70 : decode cX6_init 70 = .ok (.newarray .int, 2) := by decide +kernel
theorem dX6_init_72 : decode cX6_init 72 = .ok (.putfield 31, 3) := by decide +kernel
theorem dX6_init_75 : decode cX6_init 75 = .ok (.aload_n 0, 1) := by decide +kernel
theorem dX6_init_76 : decode cX6_init 76 = .ok (.sipush 1024, 3) := by decide +kernel
theorem dX6_init_79 : decode cX6_init 79 = .ok (.newarray .int, 2) := by decide +kernel
theorem dX6_init_81 : decode cX6_init 81 = .ok (.putfield 34, 3) := by decide +kernel
theorem dX6_init_84 : decode cX6_init 84 = .ok (.aload_n 0, 1) := by decide +kernel
theorem dX6_init_85 : decode cX6_init 85 = .ok (.sipush 1024, 3) := by decide +kernel
theorem dX6_init_88 : decode cX6_init 88 = .ok (.newarray .int, 2) := by decide +kernel
theorem dX6_init_90 : decode cX6_init 90 = .ok (.putfield 37, 3) := by decide +kernel
theorem dX6_init_93 : decode cX6_init 93 = .ok (.aload_n 0, 1) := by decide +kernel
theorem dX6_init_94 : decode cX6_init 94 = .ok (.sipush 1024, 3) := by decide +kernel
theorem dX6_init_97 : decode cX6_init 97 = .ok (.newarray .int, 2) := by decide +kernel
theorem dX6_init_99 : decode cX6_init 99 = .ok (.putfield 40, 3) := by decide +kernel
theorem dX6_init_102 : decode cX6_init 102 = .ok (.aload_n 0, 1) := by decide +kernel
theorem dX6_init_103 : decode cX6_init 103 = .ok (.bipush 120, 2) := by decide +kernel
theorem dX6_init_105 : decode cX6_init 105 = .ok (.newarray .int, 2) := by decide +kernel
theorem dX6_init_107 : decode cX6_init 107 = .ok (.putfield 43, 3) := by decide +kernel
theorem dX6_init_110 : decode cX6_init 110 = .ok (.aload_n 0, 1) := by decide +kernel
theorem dX6_init_111 : decode cX6_init 111 = .ok (.getfield 7, 3) := by decide +kernel
theorem dX6_init_114 : decode cX6_init 114 = .ok (.sipush 417, 3) := by decide +kernel
theorem dX6_init_117 : decode cX6_init 117 = .ok (.bipush (-5), 2) := by decide +kernel
theorem dX6_init_119 : decode cX6_init 119 = .ok (.iastore, 1) := by decide +kernel
theorem dX6_init_120 : decode cX6_init 120 = .ok (.aload_n 0, 1) := by decide +kernel
theorem dX6_init_121 : decode cX6_init 121 = .ok (.getfield 7, 3) := by decide +kernel
theorem dX6_init_124 : decode cX6_init 124 = .ok (.sipush 420, 3) := by decide +kernel
theorem dX6_init_127 : decode cX6_init 127 = .ok (.bipush (-5), 2) := by decide +kernel
theorem dX6_init_129 : decode cX6_init 129 = .ok (.iastore, 1) := by decide +kernel
theorem dX6_init_130 : decode cX6_init 130 = .ok (.aload_n 0, 1) := by decide +kernel
theorem dX6_init_131 : decode cX6_init 131 = .ok (.getfield 7, 3) := by decide +kernel
theorem dX6_init_134 : decode cX6_init 134 = .ok (.sipush 423, 3) := by decide +kernel
theorem dX6_init_137 : decode cX6_init 137 = .ok (.bipush (-5), 2) := by decide +kernel
theorem dX6_init_139 : decode cX6_init 139 = .ok (.iastore, 1) := by decide +kernel
theorem dX6_init_140 : decode cX6_init 140 = .ok (.return_, 1) := by decide +kernel
theorem dX6_in_0 : decode cX6_in 0 = .ok (.iload_n 0, 1) := by decide +kernel
theorem dX6_in_1 : decode cX6_in 1 = .ok (.iload_n 1, 1) := by decide +kernel
theorem dX6_in_2 : decode cX6_in 2 = .ok (.if_icmp .lt 12, 3) := by decide +kernel
theorem dX6_in_5 : decode cX6_in 5 = .ok (.iload_n 0, 1) := by decide +kernel
theorem dX6_in_6 : decode cX6_in 6 = .ok (.iload_n 2, 1) := by decide +kernel
theorem dX6_in_7 : decode cX6_in 7 = .ok (.if_icmp .gt 7, 3) := by decide +kernel
theorem dX6_in_10 : decode cX6_in 10 = .ok (.iconst 1, 1) := by decide +kernel
theorem dX6_in_11 : decode cX6_in 11 = .ok (.goto 4, 3) := by decide +kernel
theorem dX6_in_14 : decode cX6_in 14 = .ok (.iconst 0, 1) := by decide +kernel
theorem dX6_in_15 : decode cX6_in 15 = .ok (.ireturn, 1) := by decide +kernel
theorem dX6_records_0 : decode cX6_records 0 = .ok (.aload_n 0, 1) := by decide +kernel
theorem dX6_records_1 : decode cX6_records 1 = .ok (.getfield 46, 3) := by decide +kernel
theorem dX6_records_4 : decode cX6_records 4 = .ok (.iconst 4, 1) := by decide +kernel
theorem dX6_records_5 : decode cX6_records 5 = .ok (.if_icmp .ne 44, 3) := by decide +kernel
theorem dX6_records_8 : decode cX6_records 8 = .ok (.iconst 0, 1) := by decide +kernel
theorem dX6_records_9 : decode cX6_records 9 = .ok (.istore_n 1, 1) := by decide +kernel
theorem dX6_records_10 : decode cX6_records 10 = .ok (.iload_n 1, 1) := by decide +kernel
theorem dX6_records_11 : decode cX6_records 11 = .ok (.sipush 1275, 3) := by decide +kernel
theorem dX6_records_14 : decode cX6_records 14 = .ok (.if_icmp .ge 25, 3) := by decide +kernel
theorem dX6_records_17 : decode cX6_records 17 = .ok (.aload_n 0, 1) := by decide +kernel
theorem dX6_records_18 : decode cX6_records 18 = .ok (.getfield 16, 3) := by decide +kernel
theorem dX6_records_21 : decode cX6_records 21 = .ok (.iload_n 1, 1) := by decide +kernel
theorem dX6_records_22 : decode cX6_records 22 = .ok (.aload_n 0, 1) := by decide +kernel
theorem dX6_records_23 : decode cX6_records 23 = .ok (.getfield 16, 3) := by decide +kernel
theorem dX6_records_26 : decode cX6_records 26 = .ok (.iload_n 1, 1) := by decide +kernel
theorem dX6_records_27 : decode cX6_records 27 = .ok (.sipush 425, 3) := by decide +kernel
theorem dX6_records_30 : decode cX6_records 30 = .ok (.iadd, 1) := by decide +kernel
theorem dX6_records_31 : decode cX6_records 31 = .ok (.iaload, 1) := by decide +kernel
theorem dX6_records_32 : decode cX6_records 32 = .ok (.iastore, 1) := by decide +kernel
theorem dX6_records_33 : decode cX6_records 33 = .ok (.iinc 1 1, 3) := by decide +kernel
theorem dX6_records_36 : decode cX6_records 36 = .ok (.goto (-26), 3) := by decide +kernel
theorem dX6_records_39 : decode cX6_records 39 = .ok (.aload_n 0, 1) := by decide +kernel
theorem dX6_records_40 : decode cX6_records 40 = .ok (.dup, 1) := by decide +kernel
theorem dX6_records_41 : decode cX6_records 41 = .ok (.getfield 46, 3) := by decide +kernel
theorem dX6_records_44 : decode cX6_records 44 = .ok (.iconst 1, 1) := by decide +kernel
theorem dX6_records_45 : decode cX6_records 45 = .ok (.isub, 1) := by decide +kernel
theorem dX6_records_46 : decode cX6_records 46 = .ok (.putfield 46, 3) := by decide +kernel
theorem dX6_records_49 : decode cX6_records 49 = .ok (.iconst 0, 1) := by decide +kernel
theorem dX6_records_50 : decode cX6_records 50 = .ok (.istore_n 1, 1) := by decide +kernel
theorem dX6_records_51 : decode cX6_records 51 = .ok (.iload_n 1, 1) := by decide +kernel
theorem dX6_records_52 : decode cX6_records 52 = .ok (.sipush 425, 3) := by decide +kernel
theorem dX6_records_55 : decode cX6_records 55 = .ok (.if_icmp .ge 30, 3) := by decide +kernel
theorem dX6_records_58 : decode cX6_records 58 = .ok (.aload_n 0, 1) := by decide +kernel
theorem dX6_records_59 : decode cX6_records 59 = .ok (.getfield 16, 3) := by decide +kernel
theorem dX6_records_62 : decode cX6_records 62 = .ok (.sipush 425, 3) := by decide +kernel
theorem dX6_records_65 : decode cX6_records 65 = .ok (.aload_n 0, 1) := by decide +kernel
theorem dX6_records_66 : decode cX6_records 66 = .ok (.getfield 46, 3) := by decide +kernel
theorem dX6_records_69 : decode cX6_records 69 = .ok (.imul, 1) := by decide +kernel
theorem dX6_records_70 : decode cX6_records 70 = .ok (.iload_n 1, 1) := by decide +kernel
theorem dX6_records_71 : decode cX6_records 71 = .ok (.iadd, 1) := by decide +kernel
theorem dX6_records_72 : decode cX6_records 72 = .ok (.aload_n 0, 1) := by decide +kernel
theorem dX6_records_73 : decode cX6_records 73 = .ok (.getfield 7, 3) := by decide +kernel
theorem dX6_records_76 : decode cX6_records 76 = .ok (.iload_n 1, 1) := by decide +kernel
theorem dX6_records_77 : decode cX6_records 77 = .ok (.iaload, 1) := by decide +kernel
theorem dX6_records_78 : decode cX6_records 78 = .ok (.iastore, 1) := by decide +kernel
theorem dX6_records_79 : decode cX6_records 79 = .ok (.iinc 1 1, 3) := by decide +kernel
theorem dX6_records_82 : decode cX6_records 82 = .ok (.goto (-31), 3) := by decide +kernel
theorem dX6_records_85 : decode cX6_records 85 = .ok (.aload_n 0, 1) := by decide +kernel
theorem dX6_records_86 : decode cX6_records 86 = .ok (.dup, 1) := by decide +kernel
theorem dX6_records_87 : decode cX6_records 87 = .ok (.getfield 46, 3) := by decide +kernel
theorem dX6_records_90 : decode cX6_records 90 = .ok (.iconst 1, 1) := by decide +kernel
theorem dX6_records_91 : decode cX6_records 91 = .ok (.iadd, 1) := by decide +kernel
theorem dX6_records_92 : decode cX6_records 92 = .ok (.putfield 46, 3) := by decide +kernel
theorem dX6_records_95 : decode cX6_records 95 = .ok (.return_, 1) := by decide +kernel
theorem dX6_isPage_0 : decode cX6_isPage 0 = .ok (.iload_n 1, 1) := by decide +kernel
theorem dX6_isPage_1 : decode cX6_isPage 1 = .ok (.iconst 0, 1) := by decide +kernel
theorem dX6_isPage_2 : decode cX6_isPage 2 = .ok (.aload_n 0, 1) := by decide +kernel
theorem dX6_isPage_3 : decode cX6_isPage 3 = .ok (.getfield 7, 3) := by decide +kernel
theorem dX6_isPage_6 : decode cX6_isPage 6 = .ok (.iconst 0, 1) := by decide +kernel
theorem dX6_isPage_7 : decode cX6_isPage 7 = .ok (.iaload, 1) := by decide +kernel
theorem dX6_isPage_8 : decode cX6_isPage 8 = .ok (.iconst 1, 1) := by decide +kernel
theorem dX6_isPage_9 : decode cX6_isPage 9 = .ok (.isub, 1) := by decide +kernel
theorem dX6_isPage_10 : decode cX6_isPage 10 = .ok (.invokestatic 50, 3) := by decide +kernel
theorem dX6_isPage_13 : decode cX6_isPage 13 = .ok (.ireturn, 1) := by decide +kernel
theorem dX6_isChoice_0 : decode cX6_isChoice 0 = .ok (.aload_n 0, 1) := by decide +kernel
theorem dX6_isChoice_1 : decode cX6_isChoice 1 = .ok (.iload_n 1, 1) := by decide +kernel
theorem dX6_isChoice_2 : decode cX6_isChoice 2 = .ok (.invokevirtual 54, 3) := by decide +kernel
theorem dX6_isChoice_5 : decode cX6_isChoice 5 = .ok (.ifCond .eq 30, 3) := by decide +kernel
theorem dX6_isChoice_8 : decode cX6_isChoice 8 = .ok (.iload_n 2, 1) := by decide +kernel
theorem dX6_isChoice_9 : decode cX6_isChoice 9 = .ok (.iconst 0, 1) := by decide +kernel
theorem dX6_isChoice_10 : decode cX6_isChoice 10 = .ok (.aload_n 0, 1) := by decide +kernel
theorem dX6_isChoice_11 : decode cX6_isChoice 11 = .ok (.getfield 7, 3) := by decide +kernel
theorem dX6_isChoice_14 : decode cX6_isChoice 14 = .ok (.iconst 1, 1) := by decide +kernel
theorem dX6_isChoice_15 : decode cX6_isChoice 15 = .ok (.bipush 13, 2) := by decide +kernel
theorem dX6_isChoice_17 : decode cX6_isChoice 17 = .ok (.iload_n 1, 1) := by decide +kernel
theorem dX6_isChoice_18 : decode cX6_isChoice 18 = .ok (.imul, 1) := by decide +kernel
theorem dX6_isChoice_19 : decode cX6_isChoice 19 = .ok (.iadd, 1) := by decide +kernel
theorem dX6_isChoice_20 : decode cX6_isChoice 20 = .ok (.iconst 3, 1) := by decide +kernel
theorem dX6_isChoice_21 : decode cX6_isChoice 21 = .ok (.iadd, 1) := by decide +kernel
theorem dX6_isChoice_22 : decode cX6_isChoice 22 = .ok (.iaload, 1) := by decide +kernel
theorem dX6_isChoice_23 : decode cX6_isChoice 23 = .ok (.iconst 1, 1) := by decide +kernel
theorem dX6_isChoice_24 : decode cX6_isChoice 24 = .ok (.isub, 1) := by decide +kernel
theorem dX6_isChoice_25 : decode cX6_isChoice 25 = .ok (.invokestatic 50, 3) := by decide +kernel
theorem dX6_isChoice_28 : decode cX6_isChoice 28 = .ok (.ifCond .eq 7, 3) := by decide +kernel
theorem dX6_isChoice_31 : decode cX6_isChoice 31 = .ok (.iconst 1, 1) := by decide +kernel
theorem dX6_isChoice_32 : decode cX6_isChoice 32 = .ok (.goto 4, 3) := by decide +kernel
theorem dX6_isChoice_35 : decode cX6_isChoice 35 = .ok (.iconst 0, 1) := by decide +kernel
theorem dX6_isChoice_36 : decode cX6_isChoice 36 = .ok (.ireturn, 1) := by decide +kernel
theorem dX6_of_0 : decode cX6_of 0 = .ok (.aload_n 0, 1) := by decide +kernel
theorem dX6_of_1 : decode cX6_of 1 = .ok (.getfield 7, 3) := by decide +kernel
theorem dX6_of_4 : decode cX6_of 4 = .ok (.iconst 1, 1) := by decide +kernel
theorem dX6_of_5 : decode cX6_of 5 = .ok (.bipush 13, 2) := by decide +kernel
theorem dX6_of_7 : decode cX6_of 7 = .ok (.iload_n 1, 1) := by decide +kernel
theorem dX6_of_8 : decode cX6_of 8 = .ok (.imul, 1) := by decide +kernel
theorem dX6_of_9 : decode cX6_of 9 = .ok (.iadd, 1) := by decide +kernel
theorem dX6_of_10 : decode cX6_of 10 = .ok (.iload_n 2, 1) := by decide +kernel
theorem dX6_of_11 : decode cX6_of 11 = .ok (.iadd, 1) := by decide +kernel
theorem dX6_of_12 : decode cX6_of 12 = .ok (.iaload, 1) := by decide +kernel
theorem dX6_of_13 : decode cX6_of 13 = .ok (.ireturn, 1) := by decide +kernel
theorem dX6_ofChoice_0 : decode cX6_ofChoice 0 = .ok (.aload_n 0, 1) := by decide +kernel
theorem dX6_ofChoice_1 : decode cX6_ofChoice 1 = .ok (.getfield 7, 3) := by decide +kernel
theorem dX6_ofChoice_4 : decode cX6_ofChoice 4 = .ok (.iconst 1, 1) := by decide +kernel
theorem dX6_ofChoice_5 : decode cX6_ofChoice 5 = .ok (.bipush 13, 2) := by decide +kernel
theorem dX6_ofChoice_7 : decode cX6_ofChoice 7 = .ok (.iload_n 1, 1) := by decide +kernel
theorem dX6_ofChoice_8 : decode cX6_ofChoice 8 = .ok (.imul, 1) := by decide +kernel
theorem dX6_ofChoice_9 : decode cX6_ofChoice 9 = .ok (.iadd, 1) := by decide +kernel
theorem dX6_ofChoice_10 : decode cX6_ofChoice 10 = .ok (.iconst 4, 1) := by decide +kernel
theorem dX6_ofChoice_11 : decode cX6_ofChoice 11 = .ok (.iadd, 1) := by decide +kernel
theorem dX6_ofChoice_12 : decode cX6_ofChoice 12 = .ok (.iconst 3, 1) := by decide +kernel
theorem dX6_ofChoice_13 : decode cX6_ofChoice 13 = .ok (.iload_n 2, 1) := by decide +kernel
theorem dX6_ofChoice_14 : decode cX6_ofChoice 14 = .ok (.imul, 1) := by decide +kernel
theorem dX6_ofChoice_15 : decode cX6_ofChoice 15 = .ok (.iadd, 1) := by decide +kernel
theorem dX6_ofChoice_16 : decode cX6_ofChoice 16 = .ok (.iload_n 3, 1) := by decide +kernel
theorem dX6_ofChoice_17 : decode cX6_ofChoice 17 = .ok (.iadd, 1) := by decide +kernel
theorem dX6_ofChoice_18 : decode cX6_ofChoice 18 = .ok (.iaload, 1) := by decide +kernel
theorem dX6_ofChoice_19 : decode cX6_ofChoice 19 = .ok (.ireturn, 1) := by decide +kernel
theorem dX6_canTake_0 : decode cX6_canTake 0 = .ok (.aload_n 0, 1) := by decide +kernel
theorem dX6_canTake_1 : decode cX6_canTake 1 = .ok (.iload_n 1, 1) := by decide +kernel
theorem dX6_canTake_2 : decode cX6_canTake 2 = .ok (.iload_n 2, 1) := by decide +kernel
theorem dX6_canTake_3 : decode cX6_canTake 3 = .ok (.iconst 1, 1) := by decide +kernel
theorem dX6_canTake_4 : decode cX6_canTake 4 = .ok (.invokevirtual 58, 3) := by decide +kernel
theorem dX6_canTake_7 : decode cX6_canTake 7 = .ok (.iload_n 3, 1) := by decide +kernel
theorem dX6_canTake_8 : decode cX6_canTake 8 = .ok (.iconst (-1), 1) := by decide +kernel
theorem dX6_canTake_9 : decode cX6_canTake 9 = .ok (.ixor, 1) := by decide +kernel
theorem dX6_canTake_10 : decode cX6_canTake 10 = .ok (.iand, 1) := by decide +kernel
theorem dX6_canTake_11 : decode cX6_canTake 11 = .ok (.ifCond .ne 19, 3) := by decide +kernel
theorem dX6_canTake_14 : decode cX6_canTake 14 = .ok (.aload_n 0, 1) := by decide +kernel
theorem dX6_canTake_15 : decode cX6_canTake 15 = .ok (.iload_n 1, 1) := by decide +kernel
theorem dX6_canTake_16 : decode cX6_canTake 16 = .ok (.iload_n 2, 1) := by decide +kernel
theorem dX6_canTake_17 : decode cX6_canTake 17 = .ok (.iconst 2, 1) := by decide +kernel
theorem dX6_canTake_18 : decode cX6_canTake 18 = .ok (.invokevirtual 58, 3) := by decide +kernel
theorem dX6_canTake_21 : decode cX6_canTake 21 = .ok (.iload_n 3, 1) := by decide +kernel
theorem dX6_canTake_22 : decode cX6_canTake 22 = .ok (.iand, 1) := by decide +kernel
theorem dX6_canTake_23 : decode cX6_canTake 23 = .ok (.ifCond .ne 7, 3) := by decide +kernel
theorem dX6_canTake_26 : decode cX6_canTake 26 = .ok (.iconst 1, 1) := by decide +kernel
theorem dX6_canTake_27 : decode cX6_canTake 27 = .ok (.goto 4, 3) := by decide +kernel
theorem dX6_canTake_30 : decode cX6_canTake 30 = .ok (.iconst 0, 1) := by decide +kernel
theorem dX6_canTake_31 : decode cX6_canTake 31 = .ok (.ireturn, 1) := by decide +kernel
theorem dX6_coming_0 : decode cX6_coming 0 = .ok (.iload_n 2, 1) := by decide +kernel
theorem dX6_coming_1 : decode cX6_coming 1 = .ok (.aload_n 0, 1) := by decide +kernel
theorem dX6_coming_2 : decode cX6_coming 2 = .ok (.iload_n 1, 1) := by decide +kernel
theorem dX6_coming_3 : decode cX6_coming 3 = .ok (.iconst 2, 1) := by decide +kernel
theorem dX6_coming_4 : decode cX6_coming 4 = .ok (.invokevirtual 62, 3) := by decide +kernel
theorem dX6_coming_7 : decode cX6_coming 7 = .ok (.iconst (-1), 1) := by decide +kernel
theorem dX6_coming_8 : decode cX6_coming 8 = .ok (.ixor, 1) := by decide +kernel
theorem dX6_coming_9 : decode cX6_coming 9 = .ok (.iand, 1) := by decide +kernel
theorem dX6_coming_10 : decode cX6_coming 10 = .ok (.aload_n 0, 1) := by decide +kernel
theorem dX6_coming_11 : decode cX6_coming 11 = .ok (.iload_n 1, 1) := by decide +kernel
theorem dX6_coming_12 : decode cX6_coming 12 = .ok (.iconst 1, 1) := by decide +kernel
theorem dX6_coming_13 : decode cX6_coming 13 = .ok (.invokevirtual 62, 3) := by decide +kernel
theorem dX6_coming_16 : decode cX6_coming 16 = .ok (.ior, 1) := by decide +kernel
theorem dX6_coming_17 : decode cX6_coming 17 = .ok (.ireturn, 1) := by decide +kernel
theorem dX6_isEnd_0 : decode cX6_isEnd 0 = .ok (.aload_n 0, 1) := by decide +kernel
theorem dX6_isEnd_1 : decode cX6_isEnd 1 = .ok (.iload_n 1, 1) := by decide +kernel
theorem dX6_isEnd_2 : decode cX6_isEnd 2 = .ok (.iconst 3, 1) := by decide +kernel
theorem dX6_isEnd_3 : decode cX6_isEnd 3 = .ok (.invokevirtual 62, 3) := by decide +kernel
theorem dX6_isEnd_6 : decode cX6_isEnd 6 = .ok (.ifCond .ne 7, 3) := by decide +kernel
theorem dX6_isEnd_9 : decode cX6_isEnd 9 = .ok (.iconst 1, 1) := by decide +kernel
theorem dX6_isEnd_10 : decode cX6_isEnd 10 = .ok (.goto 4, 3) := by decide +kernel
theorem dX6_isEnd_13 : decode cX6_isEnd 13 = .ok (.iconst 0, 1) := by decide +kernel
theorem dX6_isEnd_14 : decode cX6_isEnd 14 = .ok (.ireturn, 1) := by decide +kernel
theorem dX6_isHappy_0 : decode cX6_isHappy 0 = .ok (.aload_n 0, 1) := by decide +kernel
theorem dX6_isHappy_1 : decode cX6_isHappy 1 = .ok (.iload_n 1, 1) := by decide +kernel
theorem dX6_isHappy_2 : decode cX6_isHappy 2 = .ok (.invokevirtual 66, 3) := by decide +kernel
theorem dX6_isHappy_5 : decode cX6_isHappy 5 = .ok (.ifCond .eq 16, 3) := by decide +kernel
theorem dX6_isHappy_8 : decode cX6_isHappy 8 = .ok (.aload_n 0, 1) := by decide +kernel
theorem dX6_isHappy_9 : decode cX6_isHappy 9 = .ok (.iload_n 1, 1) := by decide +kernel
theorem dX6_isHappy_10 : decode cX6_isHappy 10 = .ok (.iconst 0, 1) := by decide +kernel
theorem dX6_isHappy_11 : decode cX6_isHappy 11 = .ok (.invokevirtual 62, 3) := by decide +kernel
theorem dX6_isHappy_14 : decode cX6_isHappy 14 = .ok (.ifCond .le 7, 3) := by decide +kernel
theorem dX6_isHappy_17 : decode cX6_isHappy 17 = .ok (.iconst 1, 1) := by decide +kernel
theorem dX6_isHappy_18 : decode cX6_isHappy 18 = .ok (.goto 4, 3) := by decide +kernel
theorem dX6_isHappy_21 : decode cX6_isHappy 21 = .ok (.iconst 0, 1) := by decide +kernel
theorem dX6_isHappy_22 : decode cX6_isHappy 22 = .ok (.ireturn, 1) := by decide +kernel
theorem dX6_mood_0 : decode cX6_mood 0 = .ok (.aload_n 0, 1) := by decide +kernel
theorem dX6_mood_1 : decode cX6_mood 1 = .ok (.iload_n 1, 1) := by decide +kernel
theorem dX6_mood_2 : decode cX6_mood 2 = .ok (.iconst 0, 1) := by decide +kernel
theorem dX6_mood_3 : decode cX6_mood 3 = .ok (.invokevirtual 62, 3) := by decide +kernel
theorem dX6_mood_6 : decode cX6_mood 6 = .ok (.i2f, 1) := by decide +kernel
theorem dX6_mood_7 : decode cX6_mood 7 = .ok (.ldc 69, 2) := by decide +kernel
theorem dX6_mood_9 : decode cX6_mood 9 = .ok (.fdiv, 1) := by decide +kernel
theorem dX6_mood_10 : decode cX6_mood 10 = .ok (.freturn, 1) := by decide +kernel
theorem dX6_behind_0 : decode cX6_behind 0 = .ok (.iload_n 1, 1) := by decide +kernel
theorem dX6_behind_1 : decode cX6_behind 1 = .ok (.bipush 32, 2) := by decide +kernel
theorem dX6_behind_3 : decode cX6_behind 3 = .ok (.idiv, 1) := by decide +kernel
theorem dX6_behind_4 : decode cX6_behind 4 = .ok (.istore_n 3, 1) := by decide +kernel
theorem dX6_behind_5 : decode cX6_behind 5 = .ok (.iload_n 1, 1) := by decide +kernel
theorem dX6_behind_6 : decode cX6_behind 6 = .ok (.bipush 32, 2) := by decide +kernel
theorem dX6_behind_8 : decode cX6_behind 8 = .ok (.irem, 1) := by decide +kernel
theorem dX6_behind_9 : decode cX6_behind 9 = .ok (.istore 4, 2) := by decide +kernel
theorem dX6_behind_11 : decode cX6_behind 11 = .ok (.iload_n 2, 1) := by decide +kernel
theorem dX6_behind_12 : decode cX6_behind 12 = .ok (.aload_n 0, 1) := by decide +kernel
theorem dX6_behind_13 : decode cX6_behind 13 = .ok (.iload_n 3, 1) := by decide +kernel
theorem dX6_behind_14 : decode cX6_behind 14 = .ok (.iconst 3, 1) := by decide +kernel
theorem dX6_behind_15 : decode cX6_behind 15 = .ok (.invokevirtual 62, 3) := by decide +kernel
theorem dX6_behind_18 : decode cX6_behind 18 = .ok (.if_icmp .ge 14, 3) := by decide +kernel
theorem dX6_behind_21 : decode cX6_behind 21 = .ok (.aload_n 0, 1) := by decide +kernel
theorem dX6_behind_22 : decode cX6_behind 22 = .ok (.iload_n 3, 1) := by decide +kernel
theorem dX6_behind_23 : decode cX6_behind 23 = .ok (.iload_n 2, 1) := by decide +kernel
theorem dX6_behind_24 : decode cX6_behind 24 = .ok (.iload 4, 2) := by decide +kernel
theorem dX6_behind_26 : decode cX6_behind 26 = .ok (.invokevirtual 70, 3) := by decide +kernel
theorem dX6_behind_29 : decode cX6_behind 29 = .ok (.ifCond .ne 6, 3) := by decide +kernel
theorem dX6_behind_32 : decode cX6_behind 32 = .ok (.bipush (-5), 2) := by decide +kernel
theorem dX6_behind_34 : decode cX6_behind 34 = .ok (.ireturn, 1) := by decide +kernel
theorem dX6_behind_35 : decode cX6_behind 35 = .ok (.aload_n 0, 1) := by decide +kernel
theorem dX6_behind_36 : decode cX6_behind 36 = .ok (.iload_n 3, 1) := by decide +kernel
theorem dX6_behind_37 : decode cX6_behind 37 = .ok (.iload_n 2, 1) := by decide +kernel
theorem dX6_behind_38 : decode cX6_behind 38 = .ok (.iconst 0, 1) := by decide +kernel
theorem dX6_behind_39 : decode cX6_behind 39 = .ok (.invokevirtual 58, 3) := by decide +kernel
theorem dX6_behind_42 : decode cX6_behind 42 = .ok (.istore 5, 2) := by decide +kernel
theorem dX6_behind_44 : decode cX6_behind 44 = .ok (.bipush 32, 2) := by decide +kernel
theorem dX6_behind_46 : decode cX6_behind 46 = .ok (.iload 5, 2) := by decide +kernel
theorem dX6_behind_48 : decode cX6_behind 48 = .ok (.imul, 1) := by decide +kernel
theorem dX6_behind_49 : decode cX6_behind 49 = .ok (.aload_n 0, 1) := by decide +kernel
theorem dX6_behind_50 : decode cX6_behind 50 = .ok (.iload 5, 2) := by decide +kernel
theorem dX6_behind_52 : decode cX6_behind 52 = .ok (.iload 4, 2) := by decide +kernel
theorem dX6_behind_54 : decode cX6_behind 54 = .ok (.invokevirtual 73, 3) := by decide +kernel
theorem dX6_behind_57 : decode cX6_behind 57 = .ok (.iadd, 1) := by decide +kernel
theorem dX6_behind_58 : decode cX6_behind 58 = .ok (.ireturn, 1) := by decide +kernel
theorem dX6_forgets_0 : decode cX6_forgets 0 = .ok (.iconst 0, 1) := by decide +kernel
theorem dX6_forgets_1 : decode cX6_forgets 1 = .ok (.istore_n 1, 1) := by decide +kernel
theorem dX6_forgets_2 : decode cX6_forgets 2 = .ok (.iload_n 1, 1) := by decide +kernel
theorem dX6_forgets_3 : decode cX6_forgets 3 = .ok (.sipush 1024, 3) := by decide +kernel
theorem dX6_forgets_6 : decode cX6_forgets 6 = .ok (.if_icmp .ge 18, 3) := by decide +kernel
theorem dX6_forgets_9 : decode cX6_forgets 9 = .ok (.aload_n 0, 1) := by decide +kernel
theorem dX6_forgets_10 : decode cX6_forgets 10 = .ok (.getfield 22, 3) := by decide +kernel
theorem dX6_forgets_13 : decode cX6_forgets 13 = .ok (.iload_n 1, 1) := by decide +kernel
theorem dX6_forgets_14 : decode cX6_forgets 14 = .ok (.sipush 9999, 3) := by decide +kernel
theorem dX6_forgets_17 : decode cX6_forgets 17 = .ok (.iastore, 1) := by decide +kernel
theorem dX6_forgets_18 : decode cX6_forgets 18 = .ok (.iinc 1 1, 3) := by decide +kernel
theorem dX6_forgets_21 : decode cX6_forgets 21 = .ok (.goto (-19), 3) := by decide +kernel
theorem dX6_forgets_24 : decode cX6_forgets 24 = .ok (.aload_n 0, 1) := by decide +kernel
theorem dX6_forgets_25 : decode cX6_forgets 25 = .ok (.iconst 0, 1) := by decide +kernel
theorem dX6_forgets_26 : decode cX6_forgets 26 = .ok (.putfield 76, 3) := by decide +kernel
theorem dX6_forgets_29 : decode cX6_forgets 29 = .ok (.return_, 1) := by decide +kernel
theorem dX6_comesTo_0 : decode cX6_comesTo 0 = .ok (.aload_n 0, 1) := by decide +kernel
theorem dX6_comesTo_1 : decode cX6_comesTo 1 = .ok (.getfield 22, 3) := by decide +kernel
theorem dX6_comesTo_4 : decode cX6_comesTo 4 = .ok (.iload_n 1, 1) := by decide +kernel
theorem dX6_comesTo_5 : decode cX6_comesTo 5 = .ok (.iaload, 1) := by decide +kernel
theorem dX6_comesTo_6 : decode cX6_comesTo 6 = .ok (.sipush 9999, 3) := by decide +kernel
theorem dX6_comesTo_9 : decode cX6_comesTo 9 = .ok (.if_icmp .ne 45, 3) := by decide +kernel
theorem dX6_comesTo_12 : decode cX6_comesTo 12 = .ok (.aload_n 0, 1) := by decide +kernel
theorem dX6_comesTo_13 : decode cX6_comesTo 13 = .ok (.getfield 22, 3) := by decide +kernel
theorem dX6_comesTo_16 : decode cX6_comesTo 16 = .ok (.iload_n 1, 1) := by decide +kernel
theorem dX6_comesTo_17 : decode cX6_comesTo 17 = .ok (.iload_n 2, 1) := by decide +kernel
theorem dX6_comesTo_18 : decode cX6_comesTo 18 = .ok (.iastore, 1) := by decide +kernel
theorem dX6_comesTo_19 : decode cX6_comesTo 19 = .ok (.aload_n 0, 1) := by decide +kernel
theorem dX6_comesTo_20 : decode cX6_comesTo 20 = .ok (.getfield 25, 3) := by decide +kernel
theorem dX6_comesTo_23 : decode cX6_comesTo 23 = .ok (.iload_n 1, 1) := by decide +kernel
theorem dX6_comesTo_24 : decode cX6_comesTo 24 = .ok (.iload_n 3, 1) := by decide +kernel
theorem dX6_comesTo_25 : decode cX6_comesTo 25 = .ok (.iastore, 1) := by decide +kernel
theorem dX6_comesTo_26 : decode cX6_comesTo 26 = .ok (.aload_n 0, 1) := by decide +kernel
theorem dX6_comesTo_27 : decode cX6_comesTo 27 = .ok (.getfield 28, 3) := by decide +kernel
theorem dX6_comesTo_30 : decode cX6_comesTo 30 = .ok (.iload_n 1, 1) := by decide +kernel
theorem dX6_comesTo_31 : decode cX6_comesTo 31 = .ok (.iload 4, 2) := by decide +kernel
theorem dX6_comesTo_33 : decode cX6_comesTo 33 = .ok (.iastore, 1) := by decide +kernel
theorem dX6_comesTo_34 : decode cX6_comesTo 34 = .ok (.aload_n 0, 1) := by decide +kernel
theorem dX6_comesTo_35 : decode cX6_comesTo 35 = .ok (.getfield 31, 3) := by decide +kernel
theorem dX6_comesTo_38 : decode cX6_comesTo 38 = .ok (.aload_n 0, 1) := by decide +kernel
theorem dX6_comesTo_39 : decode cX6_comesTo 39 = .ok (.getfield 76, 3) := by decide +kernel
theorem dX6_comesTo_42 : decode cX6_comesTo 42 = .ok (.iload_n 1, 1) := by decide +kernel
theorem dX6_comesTo_43 : decode cX6_comesTo 43 = .ok (.iastore, 1) := by decide +kernel
theorem dX6_comesTo_44 : decode cX6_comesTo 44 = .ok (.aload_n 0, 1) := by decide +kernel
theorem dX6_comesTo_45 : decode cX6_comesTo 45 = .ok (.dup, 1) := by decide +kernel
theorem dX6_comesTo_46 : decode cX6_comesTo 46 = .ok (.getfield 76, 3) := by decide +kernel
theorem dX6_comesTo_49 : decode cX6_comesTo 49 = .ok (.iconst 1, 1) := by decide +kernel
theorem dX6_comesTo_50 : decode cX6_comesTo 50 = .ok (.iadd, 1) := by decide +kernel
theorem dX6_comesTo_51 : decode cX6_comesTo 51 = .ok (.putfield 76, 3) := by decide +kernel
theorem dX6_comesTo_54 : decode cX6_comesTo 54 = .ok (.return_, 1) := by decide +kernel
theorem dX6_spreads_0 : decode cX6_spreads 0 = .ok (.iconst 0, 1) := by decide +kernel
theorem dX6_spreads_1 : decode cX6_spreads 1 = .ok (.istore_n 1, 1) := by decide +kernel
theorem dX6_spreads_2 : decode cX6_spreads 2 = .ok (.iload_n 1, 1) := by decide +kernel
theorem dX6_spreads_3 : decode cX6_spreads 3 = .ok (.aload_n 0, 1) := by decide +kernel
theorem dX6_spreads_4 : decode cX6_spreads 4 = .ok (.getfield 76, 3) := by decide +kernel
theorem dX6_spreads_7 : decode cX6_spreads 7 = .ok (.if_icmp .ge 60, 3) := by decide +kernel
theorem dX6_spreads_10 : decode cX6_spreads 10 = .ok (.aload_n 0, 1) := by decide +kernel
theorem dX6_spreads_11 : decode cX6_spreads 11 = .ok (.getfield 31, 3) := by decide +kernel
theorem dX6_spreads_14 : decode cX6_spreads 14 = .ok (.iload_n 1, 1) := by decide +kernel
theorem dX6_spreads_15 : decode cX6_spreads 15 = .ok (.iaload, 1) := by decide +kernel
theorem dX6_spreads_16 : decode cX6_spreads 16 = .ok (.istore_n 2, 1) := by decide +kernel
theorem dX6_spreads_17 : decode cX6_spreads 17 = .ok (.iconst 0, 1) := by decide +kernel
theorem dX6_spreads_18 : decode cX6_spreads 18 = .ok (.istore_n 3, 1) := by decide +kernel
theorem dX6_spreads_19 : decode cX6_spreads 19 = .ok (.iload_n 3, 1) := by decide +kernel
theorem dX6_spreads_20 : decode cX6_spreads 20 = .ok (.iconst 3, 1) := by decide +kernel
theorem dX6_spreads_21 : decode cX6_spreads 21 = .ok (.if_icmp .ge 40, 3) := by decide +kernel
theorem dX6_spreads_24 : decode cX6_spreads 24 = .ok (.aload_n 0, 1) := by decide +kernel
theorem dX6_spreads_25 : decode cX6_spreads 25 = .ok (.iload_n 2, 1) := by decide +kernel
theorem dX6_spreads_26 : decode cX6_spreads 26 = .ok (.iload_n 3, 1) := by decide +kernel
theorem dX6_spreads_27 : decode cX6_spreads 27 = .ok (.invokevirtual 79, 3) := by decide +kernel
theorem dX6_spreads_30 : decode cX6_spreads 30 = .ok (.istore 4, 2) := by decide +kernel
theorem dX6_spreads_32 : decode cX6_spreads 32 = .ok (.iload 4, 2) := by decide +kernel
theorem dX6_spreads_34 : decode cX6_spreads 34 = .ok (.bipush (-5), 2) := by decide +kernel
theorem dX6_spreads_36 : decode cX6_spreads 36 = .ok (.if_icmp .eq 19, 3) := by decide +kernel
theorem dX6_spreads_39 : decode cX6_spreads 39 = .ok (.aload_n 0, 1) := by decide +kernel
theorem dX6_spreads_40 : decode cX6_spreads 40 = .ok (.iload 4, 2) := by decide +kernel
theorem dX6_spreads_42 : decode cX6_spreads 42 = .ok (.aload_n 0, 1) := by decide +kernel
theorem dX6_spreads_43 : decode cX6_spreads 43 = .ok (.getfield 22, 3) := by decide +kernel
theorem dX6_spreads_46 : decode cX6_spreads 46 = .ok (.iload_n 2, 1) := by decide +kernel
theorem dX6_spreads_47 : decode cX6_spreads 47 = .ok (.iaload, 1) := by decide +kernel
theorem dX6_spreads_48 : decode cX6_spreads 48 = .ok (.iconst 1, 1) := by decide +kernel
theorem dX6_spreads_49 : decode cX6_spreads 49 = .ok (.iadd, 1) := by decide +kernel
theorem dX6_spreads_50 : decode cX6_spreads 50 = .ok (.iload_n 2, 1) := by decide +kernel
theorem dX6_spreads_51 : decode cX6_spreads 51 = .ok (.iload_n 3, 1) := by decide +kernel
theorem dX6_spreads_52 : decode cX6_spreads 52 = .ok (.invokevirtual 82, 3) := by decide +kernel
theorem dX6_spreads_55 : decode cX6_spreads 55 = .ok (.iinc 3 1, 3) := by decide +kernel
theorem dX6_spreads_58 : decode cX6_spreads 58 = .ok (.goto (-39), 3) := by decide +kernel
theorem dX6_spreads_61 : decode cX6_spreads 61 = .ok (.iinc 1 1, 3) := by decide +kernel
theorem dX6_spreads_64 : decode cX6_spreads 64 = .ok (.goto (-62), 3) := by decide +kernel
theorem dX6_spreads_67 : decode cX6_spreads 67 = .ok (.return_, 1) := by decide +kernel
theorem dX6_firstPlace_0 : decode cX6_firstPlace 0 = .ok (.aload_n 0, 1) := by decide +kernel
theorem dX6_firstPlace_1 : decode cX6_firstPlace 1 = .ok (.iconst 0, 1) := by decide +kernel
theorem dX6_firstPlace_2 : decode cX6_firstPlace 2 = .ok (.iconst 0, 1) := by decide +kernel
theorem dX6_firstPlace_3 : decode cX6_firstPlace 3 = .ok (.invokevirtual 73, 3) := by decide +kernel
theorem dX6_firstPlace_6 : decode cX6_firstPlace 6 = .ok (.ireturn, 1) := by decide +kernel
theorem dX6_reaches_0 : decode cX6_reaches 0 = .ok (.aload_n 0, 1) := by decide +kernel
theorem dX6_reaches_1 : decode cX6_reaches 1 = .ok (.invokevirtual 86, 3) := by decide +kernel
theorem dX6_reaches_4 : decode cX6_reaches 4 = .ok (.aload_n 0, 1) := by decide +kernel
theorem dX6_reaches_5 : decode cX6_reaches 5 = .ok (.getfield 7, 3) := by decide +kernel
theorem dX6_reaches_8 : decode cX6_reaches 8 = .ok (.iconst 0, 1) := by decide +kernel
theorem dX6_reaches_9 : decode cX6_reaches 9 = .ok (.iaload, 1) := by decide +kernel
theorem dX6_reaches_10 : decode cX6_reaches 10 = .ok (.ifCond .le 20, 3) := by decide +kernel
theorem dX6_reaches_13 : decode cX6_reaches 13 = .ok (.aload_n 0, 1) := by decide +kernel
theorem dX6_reaches_14 : decode cX6_reaches 14 = .ok (.aload_n 0, 1) := by decide +kernel
theorem dX6_reaches_15 : decode cX6_reaches 15 = .ok (.invokevirtual 89, 3) := by decide +kernel
theorem dX6_reaches_18 : decode cX6_reaches 18 = .ok (.iconst 0, 1) := by decide +kernel
theorem dX6_reaches_19 : decode cX6_reaches 19 = .ok (.bipush (-5), 2) := by decide +kernel
theorem dX6_reaches_21 : decode cX6_reaches 21 = .ok (.bipush (-5), 2) := by decide +kernel
theorem dX6_reaches_23 : decode cX6_reaches 23 = .ok (.invokevirtual 82, 3) := by decide +kernel
theorem dX6_reaches_26 : decode cX6_reaches 26 = .ok (.aload_n 0, 1) := by decide +kernel
theorem dX6_reaches_27 : decode cX6_reaches 27 = .ok (.invokevirtual 93, 3) := by decide +kernel
theorem dX6_reaches_30 : decode cX6_reaches 30 = .ok (.return_, 1) := by decide +kernel
theorem dX6_keepsPlaces_0 : decode cX6_keepsPlaces 0 = .ok (.aload_n 0, 1) := by decide +kernel
theorem dX6_keepsPlaces_1 : decode cX6_keepsPlaces 1 = .ok (.invokevirtual 96, 3) := by decide +kernel
theorem dX6_keepsPlaces_4 : decode cX6_keepsPlaces 4 = .ok (.iconst 0, 1) := by decide +kernel
theorem dX6_keepsPlaces_5 : decode cX6_keepsPlaces 5 = .ok (.istore_n 1, 1) := by decide +kernel
theorem dX6_keepsPlaces_6 : decode cX6_keepsPlaces 6 = .ok (.iload_n 1, 1) := by decide +kernel
theorem dX6_keepsPlaces_7 : decode cX6_keepsPlaces 7 = .ok (.sipush 1024, 3) := by decide +kernel
theorem dX6_keepsPlaces_10 : decode cX6_keepsPlaces 10 = .ok (.if_icmp .ge 32, 3) := by decide +kernel
theorem dX6_keepsPlaces_13 : decode cX6_keepsPlaces 13 = .ok (.aload_n 0, 1) := by decide +kernel
theorem dX6_keepsPlaces_14 : decode cX6_keepsPlaces 14 = .ok (.getfield 34, 3) := by decide +kernel
theorem dX6_keepsPlaces_17 : decode cX6_keepsPlaces 17 = .ok (.iload_n 1, 1) := by decide +kernel
theorem dX6_keepsPlaces_18 : decode cX6_keepsPlaces 18 = .ok (.aload_n 0, 1) := by decide +kernel
theorem dX6_keepsPlaces_19 : decode cX6_keepsPlaces 19 = .ok (.getfield 22, 3) := by decide +kernel
theorem dX6_keepsPlaces_22 : decode cX6_keepsPlaces 22 = .ok (.iload_n 1, 1) := by decide +kernel
theorem dX6_keepsPlaces_23 : decode cX6_keepsPlaces 23 = .ok (.iaload, 1) := by decide +kernel
theorem dX6_keepsPlaces_24 : decode cX6_keepsPlaces 24 = .ok (.sipush 9999, 3) := by decide +kernel
theorem dX6_keepsPlaces_27 : decode cX6_keepsPlaces 27 = .ok (.if_icmp .ge 7, 3) := by decide +kernel
theorem dX6_keepsPlaces_30 : decode cX6_keepsPlaces 30 = .ok (.iconst 1, 1) := by decide +kernel
theorem dX6_keepsPlaces_31 : decode cX6_keepsPlaces 31 = .ok (.goto 4, 3) := by decide +kernel
theorem dX6_keepsPlaces_34 : decode cX6_keepsPlaces 34 = .ok (.iconst 0, 1) := by decide +kernel
theorem dX6_keepsPlaces_35 : decode cX6_keepsPlaces 35 = .ok (.iastore, 1) := by decide +kernel
theorem dX6_keepsPlaces_36 : decode cX6_keepsPlaces 36 = .ok (.iinc 1 1, 3) := by decide +kernel
theorem dX6_keepsPlaces_39 : decode cX6_keepsPlaces 39 = .ok (.goto (-33), 3) := by decide +kernel
theorem dX6_keepsPlaces_42 : decode cX6_keepsPlaces 42 = .ok (.return_, 1) := by decide +kernel
theorem dX6_placesOf_0 : decode cX6_placesOf 0 = .ok (.aload_n 0, 1) := by decide +kernel
theorem dX6_placesOf_1 : decode cX6_placesOf 1 = .ok (.invokevirtual 96, 3) := by decide +kernel
theorem dX6_placesOf_4 : decode cX6_placesOf 4 = .ok (.iconst 0, 1) := by decide +kernel
theorem dX6_placesOf_5 : decode cX6_placesOf 5 = .ok (.istore_n 2, 1) := by decide +kernel
theorem dX6_placesOf_6 : decode cX6_placesOf 6 = .ok (.iconst 0, 1) := by decide +kernel
theorem dX6_placesOf_7 : decode cX6_placesOf 7 = .ok (.istore_n 3, 1) := by decide +kernel
theorem dX6_placesOf_8 : decode cX6_placesOf 8 = .ok (.iload_n 3, 1) := by decide +kernel
theorem dX6_placesOf_9 : decode cX6_placesOf 9 = .ok (.bipush 31, 2) := by decide +kernel
theorem dX6_placesOf_11 : decode cX6_placesOf 11 = .ok (.if_icmp .gt 34, 3) := by decide +kernel
theorem dX6_placesOf_14 : decode cX6_placesOf 14 = .ok (.iload_n 2, 1) := by decide +kernel
theorem dX6_placesOf_15 : decode cX6_placesOf 15 = .ok (.aload_n 0, 1) := by decide +kernel
theorem dX6_placesOf_16 : decode cX6_placesOf 16 = .ok (.getfield 22, 3) := by decide +kernel
theorem dX6_placesOf_19 : decode cX6_placesOf 19 = .ok (.bipush 32, 2) := by decide +kernel
theorem dX6_placesOf_21 : decode cX6_placesOf 21 = .ok (.iload_n 1, 1) := by decide +kernel
theorem dX6_placesOf_22 : decode cX6_placesOf 22 = .ok (.imul, 1) := by decide +kernel
theorem dX6_placesOf_23 : decode cX6_placesOf 23 = .ok (.iload_n 3, 1) := by decide +kernel
theorem dX6_placesOf_24 : decode cX6_placesOf 24 = .ok (.iadd, 1) := by decide +kernel
theorem dX6_placesOf_25 : decode cX6_placesOf 25 = .ok (.iaload, 1) := by decide +kernel
theorem dX6_placesOf_26 : decode cX6_placesOf 26 = .ok (.sipush 9999, 3) := by decide +kernel
theorem dX6_placesOf_29 : decode cX6_placesOf 29 = .ok (.if_icmp .ge 7, 3) := by decide +kernel
theorem dX6_placesOf_32 : decode cX6_placesOf 32 = .ok (.iconst 1, 1) := by decide +kernel
theorem dX6_placesOf_33 : decode cX6_placesOf 33 = .ok (.goto 4, 3) := by decide +kernel
theorem dX6_placesOf_36 : decode cX6_placesOf 36 = .ok (.iconst 0, 1) := by decide +kernel
theorem dX6_placesOf_37 : decode cX6_placesOf 37 = .ok (.iadd, 1) := by decide +kernel
theorem dX6_placesOf_38 : decode cX6_placesOf 38 = .ok (.istore_n 2, 1) := by decide +kernel
theorem dX6_placesOf_39 : decode cX6_placesOf 39 = .ok (.iinc 3 1, 3) := by decide +kernel
theorem dX6_placesOf_42 : decode cX6_placesOf 42 = .ok (.goto (-34), 3) := by decide +kernel
theorem dX6_placesOf_45 : decode cX6_placesOf 45 = .ok (.iload_n 2, 1) := by decide +kernel
theorem dX6_placesOf_46 : decode cX6_placesOf 46 = .ok (.ireturn, 1) := by decide +kernel
theorem dX6_fewest_0 : decode cX6_fewest 0 = .ok (.aload_n 0, 1) := by decide +kernel
theorem dX6_fewest_1 : decode cX6_fewest 1 = .ok (.invokevirtual 96, 3) := by decide +kernel
theorem dX6_fewest_4 : decode cX6_fewest 4 = .ok (.sipush 9999, 3) := by decide +kernel
theorem dX6_fewest_7 : decode cX6_fewest 7 = .ok (.istore_n 2, 1) := by decide +kernel
theorem dX6_fewest_8 : decode cX6_fewest 8 = .ok (.iconst 0, 1) := by decide +kernel
theorem dX6_fewest_9 : decode cX6_fewest 9 = .ok (.istore_n 3, 1) := by decide +kernel
theorem dX6_fewest_10 : decode cX6_fewest 10 = .ok (.iload_n 3, 1) := by decide +kernel
theorem dX6_fewest_11 : decode cX6_fewest 11 = .ok (.bipush 31, 2) := by decide +kernel
theorem dX6_fewest_13 : decode cX6_fewest 13 = .ok (.if_icmp .gt 40, 3) := by decide +kernel
theorem dX6_fewest_16 : decode cX6_fewest 16 = .ok (.aload_n 0, 1) := by decide +kernel
theorem dX6_fewest_17 : decode cX6_fewest 17 = .ok (.getfield 22, 3) := by decide +kernel
theorem dX6_fewest_20 : decode cX6_fewest 20 = .ok (.bipush 32, 2) := by decide +kernel
theorem dX6_fewest_22 : decode cX6_fewest 22 = .ok (.iload_n 1, 1) := by decide +kernel
theorem dX6_fewest_23 : decode cX6_fewest 23 = .ok (.imul, 1) := by decide +kernel
theorem dX6_fewest_24 : decode cX6_fewest 24 = .ok (.iload_n 3, 1) := by decide +kernel
theorem dX6_fewest_25 : decode cX6_fewest 25 = .ok (.iadd, 1) := by decide +kernel
theorem dX6_fewest_26 : decode cX6_fewest 26 = .ok (.iaload, 1) := by decide +kernel
theorem dX6_fewest_27 : decode cX6_fewest 27 = .ok (.iload_n 2, 1) := by decide +kernel
theorem dX6_fewest_28 : decode cX6_fewest 28 = .ok (.if_icmp .ge 17, 3) := by decide +kernel
theorem dX6_fewest_31 : decode cX6_fewest 31 = .ok (.aload_n 0, 1) := by decide +kernel
theorem dX6_fewest_32 : decode cX6_fewest 32 = .ok (.getfield 22, 3) := by decide +kernel
theorem dX6_fewest_35 : decode cX6_fewest 35 = .ok (.bipush 32, 2) := by decide +kernel
theorem dX6_fewest_37 : decode cX6_fewest 37 = .ok (.iload_n 1, 1) := by decide +kernel
theorem dX6_fewest_38 : decode cX6_fewest 38 = .ok (.imul, 1) := by decide +kernel
theorem dX6_fewest_39 : decode cX6_fewest 39 = .ok (.iload_n 3, 1) := by decide +kernel
theorem dX6_fewest_40 : decode cX6_fewest 40 = .ok (.iadd, 1) := by decide +kernel
theorem dX6_fewest_41 : decode cX6_fewest 41 = .ok (.iaload, 1) := by decide +kernel
theorem dX6_fewest_42 : decode cX6_fewest 42 = .ok (.goto 4, 3) := by decide +kernel
theorem dX6_fewest_45 : decode cX6_fewest 45 = .ok (.iload_n 2, 1) := by decide +kernel
theorem dX6_fewest_46 : decode cX6_fewest 46 = .ok (.istore_n 2, 1) := by decide +kernel
theorem dX6_fewest_47 : decode cX6_fewest 47 = .ok (.iinc 3 1, 3) := by decide +kernel
theorem dX6_fewest_50 : decode cX6_fewest 50 = .ok (.goto (-40), 3) := by decide +kernel
theorem dX6_fewest_53 : decode cX6_fewest 53 = .ok (.iload_n 2, 1) := by decide +kernel
theorem dX6_fewest_54 : decode cX6_fewest 54 = .ok (.sipush 9999, 3) := by decide +kernel
theorem dX6_fewest_57 : decode cX6_fewest 57 = .ok (.if_icmp .ne 8, 3) := by decide +kernel
theorem dX6_fewest_60 : decode cX6_fewest 60 = .ok (.bipush (-5), 2) := by decide +kernel
theorem dX6_fewest_62 : decode cX6_fewest 62 = .ok (.goto 4, 3) := by decide +kernel
theorem dX6_fewest_65 : decode cX6_fewest 65 = .ok (.iload_n 2, 1) := by decide +kernel
theorem dX6_fewest_66 : decode cX6_fewest 66 = .ok (.ireturn, 1) := by decide +kernel
theorem dX6_comesAgain_0 : decode cX6_comesAgain 0 = .ok (.aload_n 0, 1) := by decide +kernel
theorem dX6_comesAgain_1 : decode cX6_comesAgain 1 = .ok (.invokevirtual 86, 3) := by decide +kernel
theorem dX6_comesAgain_4 : decode cX6_comesAgain 4 = .ok (.iconst 0, 1) := by decide +kernel
theorem dX6_comesAgain_5 : decode cX6_comesAgain 5 = .ok (.istore_n 2, 1) := by decide +kernel
theorem dX6_comesAgain_6 : decode cX6_comesAgain 6 = .ok (.iload_n 2, 1) := by decide +kernel
theorem dX6_comesAgain_7 : decode cX6_comesAgain 7 = .ok (.bipush 31, 2) := by decide +kernel
theorem dX6_comesAgain_9 : decode cX6_comesAgain 9 = .ok (.if_icmp .gt 73, 3) := by decide +kernel
theorem dX6_comesAgain_12 : decode cX6_comesAgain 12 = .ok (.iconst 0, 1) := by decide +kernel
theorem dX6_comesAgain_13 : decode cX6_comesAgain 13 = .ok (.istore_n 3, 1) := by decide +kernel
theorem dX6_comesAgain_14 : decode cX6_comesAgain 14 = .ok (.iload_n 3, 1) := by decide +kernel
theorem dX6_comesAgain_15 : decode cX6_comesAgain 15 = .ok (.iconst 3, 1) := by decide +kernel
theorem dX6_comesAgain_16 : decode cX6_comesAgain 16 = .ok (.if_icmp .ge 60, 3) := by decide +kernel
theorem dX6_comesAgain_19 : decode cX6_comesAgain 19 = .ok (.aload_n 0, 1) := by decide +kernel
theorem dX6_comesAgain_20 : decode cX6_comesAgain 20 = .ok (.getfield 34, 3) := by decide +kernel
theorem dX6_comesAgain_23 : decode cX6_comesAgain 23 = .ok (.bipush 32, 2) := by decide +kernel
theorem dX6_comesAgain_25 : decode cX6_comesAgain 25 = .ok (.iload_n 1, 1) := by decide +kernel
theorem dX6_comesAgain_26 : decode cX6_comesAgain 26 = .ok (.imul, 1) := by decide +kernel
theorem dX6_comesAgain_27 : decode cX6_comesAgain 27 = .ok (.iload_n 2, 1) := by decide +kernel
theorem dX6_comesAgain_28 : decode cX6_comesAgain 28 = .ok (.iadd, 1) := by decide +kernel
theorem dX6_comesAgain_29 : decode cX6_comesAgain 29 = .ok (.iaload, 1) := by decide +kernel
theorem dX6_comesAgain_30 : decode cX6_comesAgain 30 = .ok (.iconst 1, 1) := by decide +kernel
theorem dX6_comesAgain_31 : decode cX6_comesAgain 31 = .ok (.if_icmp .ne 17, 3) := by decide +kernel
theorem dX6_comesAgain_34 : decode cX6_comesAgain 34 = .ok (.aload_n 0, 1) := by decide +kernel
theorem dX6_comesAgain_35 : decode cX6_comesAgain 35 = .ok (.bipush 32, 2) := by decide +kernel
theorem dX6_comesAgain_37 : decode cX6_comesAgain 37 = .ok (.iload_n 1, 1) := by decide +kernel
theorem dX6_comesAgain_38 : decode cX6_comesAgain 38 = .ok (.imul, 1) := by decide +kernel
theorem dX6_comesAgain_39 : decode cX6_comesAgain 39 = .ok (.iload_n 2, 1) := by decide +kernel
theorem dX6_comesAgain_40 : decode cX6_comesAgain 40 = .ok (.iadd, 1) := by decide +kernel
theorem dX6_comesAgain_41 : decode cX6_comesAgain 41 = .ok (.iload_n 3, 1) := by decide +kernel
theorem dX6_comesAgain_42 : decode cX6_comesAgain 42 = .ok (.invokevirtual 79, 3) := by decide +kernel
theorem dX6_comesAgain_45 : decode cX6_comesAgain 45 = .ok (.goto 5, 3) := by decide +kernel
theorem dX6_comesAgain_48 : decode cX6_comesAgain 48 = .ok (.bipush (-5), 2) := by decide +kernel
theorem dX6_comesAgain_50 : decode cX6_comesAgain 50 = .ok (.istore 4, 2) := by decide +kernel
theorem dX6_comesAgain_52 : decode cX6_comesAgain 52 = .ok (.iload 4, 2) := by decide +kernel
theorem dX6_comesAgain_54 : decode cX6_comesAgain 54 = .ok (.bipush (-5), 2) := by decide +kernel
theorem dX6_comesAgain_56 : decode cX6_comesAgain 56 = .ok (.if_icmp .eq 14, 3) := by decide +kernel
theorem dX6_comesAgain_59 : decode cX6_comesAgain 59 = .ok (.aload_n 0, 1) := by decide +kernel
theorem dX6_comesAgain_60 : decode cX6_comesAgain 60 = .ok (.iload 4, 2) := by decide +kernel
theorem dX6_comesAgain_62 : decode cX6_comesAgain 62 = .ok (.iconst 0, 1) := by decide +kernel
theorem dX6_comesAgain_63 : decode cX6_comesAgain 63 = .ok (.bipush (-5), 2) := by decide +kernel
theorem dX6_comesAgain_65 : decode cX6_comesAgain 65 = .ok (.bipush (-5), 2) := by decide +kernel
theorem dX6_comesAgain_67 : decode cX6_comesAgain 67 = .ok (.invokevirtual 82, 3) := by decide +kernel
theorem dX6_comesAgain_70 : decode cX6_comesAgain 70 = .ok (.iinc 3 1, 3) := by decide +kernel
theorem dX6_comesAgain_73 : decode cX6_comesAgain 73 = .ok (.goto (-59), 3) := by decide +kernel
theorem dX6_comesAgain_76 : decode cX6_comesAgain 76 = .ok (.iinc 2 1, 3) := by decide +kernel
theorem dX6_comesAgain_79 : decode cX6_comesAgain 79 = .ok (.goto (-73), 3) := by decide +kernel
theorem dX6_comesAgain_82 : decode cX6_comesAgain 82 = .ok (.aload_n 0, 1) := by decide +kernel
theorem dX6_comesAgain_83 : decode cX6_comesAgain 83 = .ok (.invokevirtual 93, 3) := by decide +kernel
theorem dX6_comesAgain_86 : decode cX6_comesAgain 86 = .ok (.iconst 0, 1) := by decide +kernel
theorem dX6_comesAgain_87 : decode cX6_comesAgain 87 = .ok (.istore_n 2, 1) := by decide +kernel
theorem dX6_comesAgain_88 : decode cX6_comesAgain 88 = .ok (.iconst 0, 1) := by decide +kernel
theorem dX6_comesAgain_89 : decode cX6_comesAgain 89 = .ok (.istore_n 3, 1) := by decide +kernel
theorem dX6_comesAgain_90 : decode cX6_comesAgain 90 = .ok (.iload_n 3, 1) := by decide +kernel
theorem dX6_comesAgain_91 : decode cX6_comesAgain 91 = .ok (.bipush 31, 2) := by decide +kernel
theorem dX6_comesAgain_93 : decode cX6_comesAgain 93 = .ok (.if_icmp .gt 36, 3) := by decide +kernel
theorem dX6_comesAgain_96 : decode cX6_comesAgain 96 = .ok (.iload_n 2, 1) := by decide +kernel
theorem dX6_comesAgain_97 : decode cX6_comesAgain 97 = .ok (.ifCond .ne 20, 3) := by decide +kernel
theorem dX6_comesAgain_100 : decode cX6_comesAgain 100 = .ok (.aload_n 0, 1) := by decide +kernel
theorem dX6_comesAgain_101 : decode cX6_comesAgain 101 = .ok (.getfield 22, 3) := by decide +kernel
theorem dX6_comesAgain_104 : decode cX6_comesAgain 104 = .ok (.bipush 32, 2) := by decide +kernel
theorem dX6_comesAgain_106 : decode cX6_comesAgain 106 = .ok (.iload_n 1, 1) := by decide +kernel
theorem dX6_comesAgain_107 : decode cX6_comesAgain 107 = .ok (.imul, 1) := by decide +kernel
theorem dX6_comesAgain_108 : decode cX6_comesAgain 108 = .ok (.iload_n 3, 1) := by decide +kernel
theorem dX6_comesAgain_109 : decode cX6_comesAgain 109 = .ok (.iadd, 1) := by decide +kernel
theorem dX6_comesAgain_110 : decode cX6_comesAgain 110 = .ok (.iaload, 1) := by decide +kernel
theorem dX6_comesAgain_111 : decode cX6_comesAgain 111 = .ok (.sipush 9999, 3) := by decide +kernel
theorem dX6_comesAgain_114 : decode cX6_comesAgain 114 = .ok (.if_icmp .ge 7, 3) := by decide +kernel
theorem dX6_comesAgain_117 : decode cX6_comesAgain 117 = .ok (.iconst 1, 1) := by decide +kernel
theorem dX6_comesAgain_118 : decode cX6_comesAgain 118 = .ok (.goto 4, 3) := by decide +kernel
theorem dX6_comesAgain_121 : decode cX6_comesAgain 121 = .ok (.iconst 0, 1) := by decide +kernel
theorem dX6_comesAgain_122 : decode cX6_comesAgain 122 = .ok (.istore_n 2, 1) := by decide +kernel
theorem dX6_comesAgain_123 : decode cX6_comesAgain 123 = .ok (.iinc 3 1, 3) := by decide +kernel
theorem dX6_comesAgain_126 : decode cX6_comesAgain 126 = .ok (.goto (-36), 3) := by decide +kernel
theorem dX6_comesAgain_129 : decode cX6_comesAgain 129 = .ok (.iload_n 2, 1) := by decide +kernel
theorem dX6_comesAgain_130 : decode cX6_comesAgain 130 = .ok (.ireturn, 1) := by decide +kernel
theorem dX6_leadsOn_0 : decode cX6_leadsOn 0 = .ok (.iconst 0, 1) := by decide +kernel
theorem dX6_leadsOn_1 : decode cX6_leadsOn 1 = .ok (.istore_n 2, 1) := by decide +kernel
theorem dX6_leadsOn_2 : decode cX6_leadsOn 2 = .ok (.iconst 0, 1) := by decide +kernel
theorem dX6_leadsOn_3 : decode cX6_leadsOn 3 = .ok (.istore_n 3, 1) := by decide +kernel
theorem dX6_leadsOn_4 : decode cX6_leadsOn 4 = .ok (.iload_n 3, 1) := by decide +kernel
theorem dX6_leadsOn_5 : decode cX6_leadsOn 5 = .ok (.iconst 3, 1) := by decide +kernel
theorem dX6_leadsOn_6 : decode cX6_leadsOn 6 = .ok (.if_icmp .ge 45, 3) := by decide +kernel
theorem dX6_leadsOn_9 : decode cX6_leadsOn 9 = .ok (.aload_n 0, 1) := by decide +kernel
theorem dX6_leadsOn_10 : decode cX6_leadsOn 10 = .ok (.iload_n 1, 1) := by decide +kernel
theorem dX6_leadsOn_11 : decode cX6_leadsOn 11 = .ok (.iload_n 3, 1) := by decide +kernel
theorem dX6_leadsOn_12 : decode cX6_leadsOn 12 = .ok (.invokevirtual 79, 3) := by decide +kernel
theorem dX6_leadsOn_15 : decode cX6_leadsOn 15 = .ok (.istore 4, 2) := by decide +kernel
theorem dX6_leadsOn_17 : decode cX6_leadsOn 17 = .ok (.iload_n 2, 1) := by decide +kernel
theorem dX6_leadsOn_18 : decode cX6_leadsOn 18 = .ok (.ifCond .ne 21, 3) := by decide +kernel
theorem dX6_leadsOn_21 : decode cX6_leadsOn 21 = .ok (.iload 4, 2) := by decide +kernel
theorem dX6_leadsOn_23 : decode cX6_leadsOn 23 = .ok (.bipush (-5), 2) := by decide +kernel
theorem dX6_leadsOn_25 : decode cX6_leadsOn 25 = .ok (.if_icmp .eq 18, 3) := by decide +kernel
theorem dX6_leadsOn_28 : decode cX6_leadsOn 28 = .ok (.aload_n 0, 1) := by decide +kernel
theorem dX6_leadsOn_29 : decode cX6_leadsOn 29 = .ok (.getfield 37, 3) := by decide +kernel
theorem dX6_leadsOn_32 : decode cX6_leadsOn 32 = .ok (.iload 4, 2) := by decide +kernel
theorem dX6_leadsOn_34 : decode cX6_leadsOn 34 = .ok (.iaload, 1) := by decide +kernel
theorem dX6_leadsOn_35 : decode cX6_leadsOn 35 = .ok (.iconst 1, 1) := by decide +kernel
theorem dX6_leadsOn_36 : decode cX6_leadsOn 36 = .ok (.if_icmp .ne 7, 3) := by decide +kernel
theorem dX6_leadsOn_39 : decode cX6_leadsOn 39 = .ok (.iconst 1, 1) := by decide +kernel
theorem dX6_leadsOn_40 : decode cX6_leadsOn 40 = .ok (.goto 4, 3) := by decide +kernel
theorem dX6_leadsOn_43 : decode cX6_leadsOn 43 = .ok (.iconst 0, 1) := by decide +kernel
theorem dX6_leadsOn_44 : decode cX6_leadsOn 44 = .ok (.istore_n 2, 1) := by decide +kernel
theorem dX6_leadsOn_45 : decode cX6_leadsOn 45 = .ok (.iinc 3 1, 3) := by decide +kernel
theorem dX6_leadsOn_48 : decode cX6_leadsOn 48 = .ok (.goto (-44), 3) := by decide +kernel
theorem dX6_leadsOn_51 : decode cX6_leadsOn 51 = .ok (.iload_n 2, 1) := by decide +kernel
theorem dX6_leadsOn_52 : decode cX6_leadsOn 52 = .ok (.ireturn, 1) := by decide +kernel
theorem dX6_findsEnds_0 : decode cX6_findsEnds 0 = .ok (.aload_n 0, 1) := by decide +kernel
theorem dX6_findsEnds_1 : decode cX6_findsEnds 1 = .ok (.invokevirtual 99, 3) := by decide +kernel
theorem dX6_findsEnds_4 : decode cX6_findsEnds 4 = .ok (.iconst 0, 1) := by decide +kernel
theorem dX6_findsEnds_5 : decode cX6_findsEnds 5 = .ok (.istore_n 1, 1) := by decide +kernel
theorem dX6_findsEnds_6 : decode cX6_findsEnds 6 = .ok (.iload_n 1, 1) := by decide +kernel
theorem dX6_findsEnds_7 : decode cX6_findsEnds 7 = .ok (.sipush 1024, 3) := by decide +kernel
theorem dX6_findsEnds_10 : decode cX6_findsEnds 10 = .ok (.if_icmp .ge 41, 3) := by decide +kernel
theorem dX6_findsEnds_13 : decode cX6_findsEnds 13 = .ok (.aload_n 0, 1) := by decide +kernel
theorem dX6_findsEnds_14 : decode cX6_findsEnds 14 = .ok (.getfield 37, 3) := by decide +kernel
theorem dX6_findsEnds_17 : decode cX6_findsEnds 17 = .ok (.iload_n 1, 1) := by decide +kernel
theorem dX6_findsEnds_18 : decode cX6_findsEnds 18 = .ok (.aload_n 0, 1) := by decide +kernel
theorem dX6_findsEnds_19 : decode cX6_findsEnds 19 = .ok (.getfield 34, 3) := by decide +kernel
theorem dX6_findsEnds_22 : decode cX6_findsEnds 22 = .ok (.iload_n 1, 1) := by decide +kernel
theorem dX6_findsEnds_23 : decode cX6_findsEnds 23 = .ok (.iaload, 1) := by decide +kernel
theorem dX6_findsEnds_24 : decode cX6_findsEnds 24 = .ok (.iconst 1, 1) := by decide +kernel
theorem dX6_findsEnds_25 : decode cX6_findsEnds 25 = .ok (.if_icmp .ne 18, 3) := by decide +kernel
theorem dX6_findsEnds_28 : decode cX6_findsEnds 28 = .ok (.aload_n 0, 1) := by decide +kernel
theorem dX6_findsEnds_29 : decode cX6_findsEnds 29 = .ok (.iload_n 1, 1) := by decide +kernel
theorem dX6_findsEnds_30 : decode cX6_findsEnds 30 = .ok (.bipush 32, 2) := by decide +kernel
theorem dX6_findsEnds_32 : decode cX6_findsEnds 32 = .ok (.idiv, 1) := by decide +kernel
theorem dX6_findsEnds_33 : decode cX6_findsEnds 33 = .ok (.invokevirtual 66, 3) := by decide +kernel
theorem dX6_findsEnds_36 : decode cX6_findsEnds 36 = .ok (.ifCond .eq 7, 3) := by decide +kernel
theorem dX6_findsEnds_39 : decode cX6_findsEnds 39 = .ok (.iconst 1, 1) := by decide +kernel
theorem dX6_findsEnds_40 : decode cX6_findsEnds 40 = .ok (.goto 4, 3) := by decide +kernel
theorem dX6_findsEnds_43 : decode cX6_findsEnds 43 = .ok (.iconst 0, 1) := by decide +kernel
theorem dX6_findsEnds_44 : decode cX6_findsEnds 44 = .ok (.iastore, 1) := by decide +kernel
theorem dX6_findsEnds_45 : decode cX6_findsEnds 45 = .ok (.iinc 1 1, 3) := by decide +kernel
theorem dX6_findsEnds_48 : decode cX6_findsEnds 48 = .ok (.goto (-42), 3) := by decide +kernel
theorem dX6_findsEnds_51 : decode cX6_findsEnds 51 = .ok (.iconst 1, 1) := by decide +kernel
theorem dX6_findsEnds_52 : decode cX6_findsEnds 52 = .ok (.istore_n 1, 1) := by decide +kernel
theorem dX6_findsEnds_53 : decode cX6_findsEnds 53 = .ok (.iload_n 1, 1) := by decide +kernel
theorem dX6_findsEnds_54 : decode cX6_findsEnds 54 = .ok (.ifCond .eq 66, 3) := by decide +kernel
theorem dX6_findsEnds_57 : decode cX6_findsEnds 57 = .ok (.iconst 0, 1) := by decide +kernel
theorem dX6_findsEnds_58 : decode cX6_findsEnds 58 = .ok (.istore_n 1, 1) := by decide +kernel
theorem dX6_findsEnds_59 : decode cX6_findsEnds 59 = .ok (.aload_n 0, 1) := by decide +kernel
theorem dX6_findsEnds_60 : decode cX6_findsEnds 60 = .ok (.getfield 76, 3) := by decide +kernel
theorem dX6_findsEnds_63 : decode cX6_findsEnds 63 = .ok (.iconst 1, 1) := by decide +kernel
theorem dX6_findsEnds_64 : decode cX6_findsEnds 64 = .ok (.isub, 1) := by decide +kernel
theorem dX6_findsEnds_65 : decode cX6_findsEnds 65 = .ok (.istore_n 2, 1) := by decide +kernel
theorem dX6_findsEnds_66 : decode cX6_findsEnds 66 = .ok (.iload_n 2, 1) := by decide +kernel
theorem dX6_findsEnds_67 : decode cX6_findsEnds 67 = .ok (.ifCond .lt 50, 3) := by decide +kernel
theorem dX6_findsEnds_70 : decode cX6_findsEnds 70 = .ok (.aload_n 0, 1) := by decide +kernel
theorem dX6_findsEnds_71 : decode cX6_findsEnds 71 = .ok (.getfield 37, 3) := by decide +kernel
theorem dX6_findsEnds_74 : decode cX6_findsEnds 74 = .ok (.aload_n 0, 1) := by decide +kernel
theorem dX6_findsEnds_75 : decode cX6_findsEnds 75 = .ok (.getfield 31, 3) := by decide +kernel
theorem dX6_findsEnds_78 : decode cX6_findsEnds 78 = .ok (.iload_n 2, 1) := by decide +kernel
theorem dX6_findsEnds_79 : decode cX6_findsEnds 79 = .ok (.iaload, 1) := by decide +kernel
theorem dX6_findsEnds_80 : decode cX6_findsEnds 80 = .ok (.iaload, 1) := by decide +kernel
theorem dX6_findsEnds_81 : decode cX6_findsEnds 81 = .ok (.ifCond .ne 30, 3) := by decide +kernel
theorem dX6_findsEnds_84 : decode cX6_findsEnds 84 = .ok (.aload_n 0, 1) := by decide +kernel
theorem dX6_findsEnds_85 : decode cX6_findsEnds 85 = .ok (.aload_n 0, 1) := by decide +kernel
theorem dX6_findsEnds_86 : decode cX6_findsEnds 86 = .ok (.getfield 31, 3) := by decide +kernel
theorem dX6_findsEnds_89 : decode cX6_findsEnds 89 = .ok (.iload_n 2, 1) := by decide +kernel
theorem dX6_findsEnds_90 : decode cX6_findsEnds 90 = .ok (.iaload, 1) := by decide +kernel
theorem dX6_findsEnds_91 : decode cX6_findsEnds 91 = .ok (.invokevirtual 102, 3) := by decide +kernel
theorem dX6_findsEnds_94 : decode cX6_findsEnds 94 = .ok (.ifCond .eq 17, 3) := by decide +kernel
theorem dX6_findsEnds_97 : decode cX6_findsEnds 97 = .ok (.aload_n 0, 1) := by decide +kernel
theorem dX6_findsEnds_98 : decode cX6_findsEnds 98 = .ok (.getfield 37, 3) := by decide +kernel
theorem dX6_findsEnds_101 : decode cX6_findsEnds 101 = .ok (.aload_n 0, 1) := by decide +kernel
theorem dX6_findsEnds_102 : decode cX6_findsEnds 102 = .ok (.getfield 31, 3) := by decide +kernel
theorem dX6_findsEnds_105 : decode cX6_findsEnds 105 = .ok (.iload_n 2, 1) := by decide +kernel
theorem dX6_findsEnds_106 : decode cX6_findsEnds 106 = .ok (.iaload, 1) := by decide +kernel
theorem dX6_findsEnds_107 : decode cX6_findsEnds 107 = .ok (.iconst 1, 1) := by decide +kernel
theorem dX6_findsEnds_108 : decode cX6_findsEnds 108 = .ok (.iastore, 1) := by decide +kernel
theorem dX6_findsEnds_109 : decode cX6_findsEnds 109 = .ok (.iconst 1, 1) := by decide +kernel
theorem dX6_findsEnds_110 : decode cX6_findsEnds 110 = .ok (.istore_n 1, 1) := by decide +kernel
theorem dX6_findsEnds_111 : decode cX6_findsEnds 111 = .ok (.iinc 2 (-1), 3) := by decide +kernel
theorem dX6_findsEnds_114 : decode cX6_findsEnds 114 = .ok (.goto (-48), 3) := by decide +kernel
theorem dX6_findsEnds_117 : decode cX6_findsEnds 117 = .ok (.goto (-64), 3) := by decide +kernel
theorem dX6_findsEnds_120 : decode cX6_findsEnds 120 = .ok (.return_, 1) := by decide +kernel
theorem dX6_stuckIn_0 : decode cX6_stuckIn 0 = .ok (.aload_n 0, 1) := by decide +kernel
theorem dX6_stuckIn_1 : decode cX6_stuckIn 1 = .ok (.invokevirtual 105, 3) := by decide +kernel
theorem dX6_stuckIn_4 : decode cX6_stuckIn 4 = .ok (.iconst 0, 1) := by decide +kernel
theorem dX6_stuckIn_5 : decode cX6_stuckIn 5 = .ok (.istore_n 3, 1) := by decide +kernel
theorem dX6_stuckIn_6 : decode cX6_stuckIn 6 = .ok (.iload_n 1, 1) := by decide +kernel
theorem dX6_stuckIn_7 : decode cX6_stuckIn 7 = .ok (.istore 4, 2) := by decide +kernel
theorem dX6_stuckIn_9 : decode cX6_stuckIn 9 = .ok (.iload 4, 2) := by decide +kernel
theorem dX6_stuckIn_11 : decode cX6_stuckIn 11 = .ok (.iload_n 2, 1) := by decide +kernel
theorem dX6_stuckIn_12 : decode cX6_stuckIn 12 = .ok (.if_icmp .gt 38, 3) := by decide +kernel
theorem dX6_stuckIn_15 : decode cX6_stuckIn 15 = .ok (.iload_n 3, 1) := by decide +kernel
theorem dX6_stuckIn_16 : decode cX6_stuckIn 16 = .ok (.aload_n 0, 1) := by decide +kernel
theorem dX6_stuckIn_17 : decode cX6_stuckIn 17 = .ok (.getfield 34, 3) := by decide +kernel
theorem dX6_stuckIn_20 : decode cX6_stuckIn 20 = .ok (.iload 4, 2) := by decide +kernel
theorem dX6_stuckIn_22 : decode cX6_stuckIn 22 = .ok (.iaload, 1) := by decide +kernel
theorem dX6_stuckIn_23 : decode cX6_stuckIn 23 = .ok (.iconst 1, 1) := by decide +kernel
theorem dX6_stuckIn_24 : decode cX6_stuckIn 24 = .ok (.if_icmp .ne 17, 3) := by decide +kernel
theorem dX6_stuckIn_27 : decode cX6_stuckIn 27 = .ok (.aload_n 0, 1) := by decide +kernel
theorem dX6_stuckIn_28 : decode cX6_stuckIn 28 = .ok (.getfield 37, 3) := by decide +kernel
theorem dX6_stuckIn_31 : decode cX6_stuckIn 31 = .ok (.iload 4, 2) := by decide +kernel
theorem dX6_stuckIn_33 : decode cX6_stuckIn 33 = .ok (.iaload, 1) := by decide +kernel
theorem dX6_stuckIn_34 : decode cX6_stuckIn 34 = .ok (.ifCond .ne 7, 3) := by decide +kernel
theorem dX6_stuckIn_37 : decode cX6_stuckIn 37 = .ok (.iconst 1, 1) := by decide +kernel
theorem dX6_stuckIn_38 : decode cX6_stuckIn 38 = .ok (.goto 4, 3) := by decide +kernel
theorem dX6_stuckIn_41 : decode cX6_stuckIn 41 = .ok (.iconst 0, 1) := by decide +kernel
theorem dX6_stuckIn_42 : decode cX6_stuckIn 42 = .ok (.iadd, 1) := by decide +kernel
theorem dX6_stuckIn_43 : decode cX6_stuckIn 43 = .ok (.istore_n 3, 1) := by decide +kernel
theorem dX6_stuckIn_44 : decode cX6_stuckIn 44 = .ok (.iinc 4 1, 3) := by decide +kernel
theorem dX6_stuckIn_47 : decode cX6_stuckIn 47 = .ok (.goto (-38), 3) := by decide +kernel
theorem dX6_stuckIn_50 : decode cX6_stuckIn 50 = .ok (.iload_n 3, 1) := by decide +kernel
theorem dX6_stuckIn_51 : decode cX6_stuckIn 51 = .ok (.ireturn, 1) := by decide +kernel
theorem dX6_isTenths_0 : decode cX6_isTenths 0 = .ok (.iload_n 0, 1) := by decide +kernel
theorem dX6_isTenths_1 : decode cX6_isTenths 1 = .ok (.bipush (-99), 2) := by decide +kernel
theorem dX6_isTenths_3 : decode cX6_isTenths 3 = .ok (.bipush 99, 2) := by decide +kernel
theorem dX6_isTenths_5 : decode cX6_isTenths 5 = .ok (.invokestatic 50, 3) := by decide +kernel
theorem dX6_isTenths_8 : decode cX6_isTenths 8 = .ok (.ireturn, 1) := by decide +kernel
theorem dX6_areFlags_0 : decode cX6_areFlags 0 = .ok (.iload_n 0, 1) := by decide +kernel
theorem dX6_areFlags_1 : decode cX6_areFlags 1 = .ok (.iconst 0, 1) := by decide +kernel
theorem dX6_areFlags_2 : decode cX6_areFlags 2 = .ok (.bipush 31, 2) := by decide +kernel
theorem dX6_areFlags_4 : decode cX6_areFlags 4 = .ok (.invokestatic 50, 3) := by decide +kernel
theorem dX6_areFlags_7 : decode cX6_areFlags 7 = .ok (.ireturn, 1) := by decide +kernel
theorem dX6_addPage_0 : decode cX6_addPage 0 = .ok (.iload_n 1, 1) := by decide +kernel
theorem dX6_addPage_1 : decode cX6_addPage 1 = .ok (.invokestatic 108, 3) := by decide +kernel
theorem dX6_addPage_4 : decode cX6_addPage 4 = .ok (.ifCond .eq 17, 3) := by decide +kernel
theorem dX6_addPage_7 : decode cX6_addPage 7 = .ok (.iload_n 2, 1) := by decide +kernel
theorem dX6_addPage_8 : decode cX6_addPage 8 = .ok (.invokestatic 111, 3) := by decide +kernel
theorem dX6_addPage_11 : decode cX6_addPage 11 = .ok (.ifCond .eq 10, 3) := by decide +kernel
theorem dX6_addPage_14 : decode cX6_addPage 14 = .ok (.iload_n 3, 1) := by decide +kernel
theorem dX6_addPage_15 : decode cX6_addPage 15 = .ok (.invokestatic 111, 3) := by decide +kernel
theorem dX6_addPage_18 : decode cX6_addPage 18 = .ok (.ifCond .ne 6, 3) := by decide +kernel
theorem dX6_addPage_21 : decode cX6_addPage 21 = .ok (.bipush (-2), 2) := by decide +kernel
theorem dX6_addPage_23 : decode cX6_addPage 23 = .ok (.ireturn, 1) := by decide +kernel
theorem dX6_addPage_24 : decode cX6_addPage 24 = .ok (.aload_n 0, 1) := by decide +kernel
theorem dX6_addPage_25 : decode cX6_addPage 25 = .ok (.getfield 7, 3) := by decide +kernel
theorem dX6_addPage_28 : decode cX6_addPage 28 = .ok (.iconst 0, 1) := by decide +kernel
theorem dX6_addPage_29 : decode cX6_addPage 29 = .ok (.iaload, 1) := by decide +kernel
theorem dX6_addPage_30 : decode cX6_addPage 30 = .ok (.bipush 32, 2) := by decide +kernel
theorem dX6_addPage_32 : decode cX6_addPage 32 = .ok (.if_icmp .ne 6, 3) := by decide +kernel
theorem dX6_addPage_35 : decode cX6_addPage 35 = .ok (.bipush (-3), 2) := by decide +kernel
theorem dX6_addPage_37 : decode cX6_addPage 37 = .ok (.ireturn, 1) := by decide +kernel
theorem dX6_addPage_38 : decode cX6_addPage 38 = .ok (.aload_n 0, 1) := by decide +kernel
theorem dX6_addPage_39 : decode cX6_addPage 39 = .ok (.invokevirtual 114, 3) := by decide +kernel
theorem dX6_addPage_42 : decode cX6_addPage 42 = .ok (.iconst 1, 1) := by decide +kernel
theorem dX6_addPage_43 : decode cX6_addPage 43 = .ok (.bipush 13, 2) := by decide +kernel
theorem dX6_addPage_45 : decode cX6_addPage 45 = .ok (.aload_n 0, 1) := by decide +kernel
theorem dX6_addPage_46 : decode cX6_addPage 46 = .ok (.getfield 7, 3) := by decide +kernel
theorem dX6_addPage_49 : decode cX6_addPage 49 = .ok (.iconst 0, 1) := by decide +kernel
theorem dX6_addPage_50 : decode cX6_addPage 50 = .ok (.iaload, 1) := by decide +kernel
theorem dX6_addPage_51 : decode cX6_addPage 51 = .ok (.imul, 1) := by decide +kernel
theorem dX6_addPage_52 : decode cX6_addPage 52 = .ok (.iadd, 1) := by decide +kernel
theorem dX6_addPage_53 : decode cX6_addPage 53 = .ok (.istore 4, 2) := by decide +kernel
theorem dX6_addPage_55 : decode cX6_addPage 55 = .ok (.aload_n 0, 1) := by decide +kernel
theorem dX6_addPage_56 : decode cX6_addPage 56 = .ok (.getfield 7, 3) := by decide +kernel
theorem dX6_addPage_59 : decode cX6_addPage 59 = .ok (.iload 4, 2) := by decide +kernel
theorem dX6_addPage_61 : decode cX6_addPage 61 = .ok (.iconst 0, 1) := by decide +kernel
theorem dX6_addPage_62 : decode cX6_addPage 62 = .ok (.iadd, 1) := by decide +kernel
theorem dX6_addPage_63 : decode cX6_addPage 63 = .ok (.iload_n 1, 1) := by decide +kernel
theorem dX6_addPage_64 : decode cX6_addPage 64 = .ok (.iastore, 1) := by decide +kernel
theorem dX6_addPage_65 : decode cX6_addPage 65 = .ok (.aload_n 0, 1) := by decide +kernel
theorem dX6_addPage_66 : decode cX6_addPage 66 = .ok (.getfield 7, 3) := by decide +kernel
theorem dX6_addPage_69 : decode cX6_addPage 69 = .ok (.iload 4, 2) := by decide +kernel
theorem dX6_addPage_71 : decode cX6_addPage 71 = .ok (.iconst 1, 1) := by decide +kernel
theorem dX6_addPage_72 : decode cX6_addPage 72 = .ok (.iadd, 1) := by decide +kernel
theorem dX6_addPage_73 : decode cX6_addPage 73 = .ok (.iload_n 2, 1) := by decide +kernel
theorem dX6_addPage_74 : decode cX6_addPage 74 = .ok (.iastore, 1) := by decide +kernel
theorem dX6_addPage_75 : decode cX6_addPage 75 = .ok (.aload_n 0, 1) := by decide +kernel
theorem dX6_addPage_76 : decode cX6_addPage 76 = .ok (.getfield 7, 3) := by decide +kernel
theorem dX6_addPage_79 : decode cX6_addPage 79 = .ok (.iload 4, 2) := by decide +kernel
theorem dX6_addPage_81 : decode cX6_addPage 81 = .ok (.iconst 2, 1) := by decide +kernel
theorem dX6_addPage_82 : decode cX6_addPage 82 = .ok (.iadd, 1) := by decide +kernel
theorem dX6_addPage_83 : decode cX6_addPage 83 = .ok (.iload_n 3, 1) := by decide +kernel
theorem dX6_addPage_84 : decode cX6_addPage 84 = .ok (.iastore, 1) := by decide +kernel
theorem dX6_addPage_85 : decode cX6_addPage 85 = .ok (.aload_n 0, 1) := by decide +kernel
theorem dX6_addPage_86 : decode cX6_addPage 86 = .ok (.getfield 7, 3) := by decide +kernel
theorem dX6_addPage_89 : decode cX6_addPage 89 = .ok (.iload 4, 2) := by decide +kernel
theorem dX6_addPage_91 : decode cX6_addPage 91 = .ok (.iconst 3, 1) := by decide +kernel
theorem dX6_addPage_92 : decode cX6_addPage 92 = .ok (.iadd, 1) := by decide +kernel
theorem dX6_addPage_93 : decode cX6_addPage 93 = .ok (.iconst 0, 1) := by decide +kernel
theorem dX6_addPage_94 : decode cX6_addPage 94 = .ok (.iastore, 1) := by decide +kernel
theorem dX6_addPage_95 : decode cX6_addPage 95 = .ok (.aload_n 0, 1) := by decide +kernel
theorem dX6_addPage_96 : decode cX6_addPage 96 = .ok (.getfield 7, 3) := by decide +kernel
theorem dX6_addPage_99 : decode cX6_addPage 99 = .ok (.iconst 0, 1) := by decide +kernel
theorem dX6_addPage_100 : decode cX6_addPage 100 = .ok (.dup2, 1) := by decide +kernel
theorem dX6_addPage_101 : decode cX6_addPage 101 = .ok (.iaload, 1) := by decide +kernel
theorem dX6_addPage_102 : decode cX6_addPage 102 = .ok (.iconst 1, 1) := by decide +kernel
theorem dX6_addPage_103 : decode cX6_addPage 103 = .ok (.iadd, 1) := by decide +kernel
theorem dX6_addPage_104 : decode cX6_addPage 104 = .ok (.iastore, 1) := by decide +kernel
theorem dX6_addPage_105 : decode cX6_addPage 105 = .ok (.aload_n 0, 1) := by decide +kernel
theorem dX6_addPage_106 : decode cX6_addPage 106 = .ok (.getfield 7, 3) := by decide +kernel
theorem dX6_addPage_109 : decode cX6_addPage 109 = .ok (.iconst 0, 1) := by decide +kernel
theorem dX6_addPage_110 : decode cX6_addPage 110 = .ok (.iaload, 1) := by decide +kernel
theorem dX6_addPage_111 : decode cX6_addPage 111 = .ok (.iconst 1, 1) := by decide +kernel
theorem dX6_addPage_112 : decode cX6_addPage 112 = .ok (.isub, 1) := by decide +kernel
theorem dX6_addPage_113 : decode cX6_addPage 113 = .ok (.ireturn, 1) := by decide +kernel
theorem dX6_setMood_0 : decode cX6_setMood 0 = .ok (.aload_n 0, 1) := by decide +kernel
theorem dX6_setMood_1 : decode cX6_setMood 1 = .ok (.iload_n 1, 1) := by decide +kernel
theorem dX6_setMood_2 : decode cX6_setMood 2 = .ok (.invokevirtual 54, 3) := by decide +kernel
theorem dX6_setMood_5 : decode cX6_setMood 5 = .ok (.ifCond .ne 5, 3) := by decide +kernel
theorem dX6_setMood_8 : decode cX6_setMood 8 = .ok (.iconst (-1), 1) := by decide +kernel
theorem dX6_setMood_9 : decode cX6_setMood 9 = .ok (.ireturn, 1) := by decide +kernel
theorem dX6_setMood_10 : decode cX6_setMood 10 = .ok (.iload_n 2, 1) := by decide +kernel
theorem dX6_setMood_11 : decode cX6_setMood 11 = .ok (.invokestatic 108, 3) := by decide +kernel
theorem dX6_setMood_14 : decode cX6_setMood 14 = .ok (.ifCond .eq 13, 3) := by decide +kernel
theorem dX6_setMood_17 : decode cX6_setMood 17 = .ok (.aload_n 0, 1) := by decide +kernel
theorem dX6_setMood_18 : decode cX6_setMood 18 = .ok (.iload_n 1, 1) := by decide +kernel
theorem dX6_setMood_19 : decode cX6_setMood 19 = .ok (.iconst 0, 1) := by decide +kernel
theorem dX6_setMood_20 : decode cX6_setMood 20 = .ok (.invokevirtual 62, 3) := by decide +kernel
theorem dX6_setMood_23 : decode cX6_setMood 23 = .ok (.iload_n 2, 1) := by decide +kernel
theorem dX6_setMood_24 : decode cX6_setMood 24 = .ok (.if_icmp .ne 18, 3) := by decide +kernel
theorem dX6_setMood_27 : decode cX6_setMood 27 = .ok (.iload_n 2, 1) := by decide +kernel
theorem dX6_setMood_28 : decode cX6_setMood 28 = .ok (.invokestatic 108, 3) := by decide +kernel
theorem dX6_setMood_31 : decode cX6_setMood 31 = .ok (.ifCond .eq 8, 3) := by decide +kernel
theorem dX6_setMood_34 : decode cX6_setMood 34 = .ok (.bipush (-5), 2) := by decide +kernel
theorem dX6_setMood_36 : decode cX6_setMood 36 = .ok (.goto 5, 3) := by decide +kernel
theorem dX6_setMood_39 : decode cX6_setMood 39 = .ok (.bipush (-2), 2) := by decide +kernel
theorem dX6_setMood_41 : decode cX6_setMood 41 = .ok (.ireturn, 1) := by decide +kernel
theorem dX6_setMood_42 : decode cX6_setMood 42 = .ok (.aload_n 0, 1) := by decide +kernel
theorem dX6_setMood_43 : decode cX6_setMood 43 = .ok (.invokevirtual 114, 3) := by decide +kernel
theorem dX6_setMood_46 : decode cX6_setMood 46 = .ok (.aload_n 0, 1) := by decide +kernel
theorem dX6_setMood_47 : decode cX6_setMood 47 = .ok (.getfield 7, 3) := by decide +kernel
theorem dX6_setMood_50 : decode cX6_setMood 50 = .ok (.iconst 1, 1) := by decide +kernel
theorem dX6_setMood_51 : decode cX6_setMood 51 = .ok (.bipush 13, 2) := by decide +kernel
theorem dX6_setMood_53 : decode cX6_setMood 53 = .ok (.iload_n 1, 1) := by decide +kernel
theorem dX6_setMood_54 : decode cX6_setMood 54 = .ok (.imul, 1) := by decide +kernel
theorem dX6_setMood_55 : decode cX6_setMood 55 = .ok (.iadd, 1) := by decide +kernel
theorem dX6_setMood_56 : decode cX6_setMood 56 = .ok (.iconst 0, 1) := by decide +kernel
theorem dX6_setMood_57 : decode cX6_setMood 57 = .ok (.iadd, 1) := by decide +kernel
theorem dX6_setMood_58 : decode cX6_setMood 58 = .ok (.iload_n 2, 1) := by decide +kernel
theorem dX6_setMood_59 : decode cX6_setMood 59 = .ok (.iastore, 1) := by decide +kernel
theorem dX6_setMood_60 : decode cX6_setMood 60 = .ok (.aload_n 0, 1) := by decide +kernel
theorem dX6_setMood_61 : decode cX6_setMood 61 = .ok (.iload_n 1, 1) := by decide +kernel
theorem dX6_setMood_62 : decode cX6_setMood 62 = .ok (.iconst 3, 1) := by decide +kernel
theorem dX6_setMood_63 : decode cX6_setMood 63 = .ok (.invokevirtual 62, 3) := by decide +kernel
theorem dX6_setMood_66 : decode cX6_setMood 66 = .ok (.ireturn, 1) := by decide +kernel
theorem dX6_whyNot_0 : decode cX6_whyNot 0 = .ok (.aload_n 0, 1) := by decide +kernel
theorem dX6_whyNot_1 : decode cX6_whyNot 1 = .ok (.iload_n 1, 1) := by decide +kernel
theorem dX6_whyNot_2 : decode cX6_whyNot 2 = .ok (.invokevirtual 54, 3) := by decide +kernel
theorem dX6_whyNot_5 : decode cX6_whyNot 5 = .ok (.ifCond .eq 11, 3) := by decide +kernel
theorem dX6_whyNot_8 : decode cX6_whyNot 8 = .ok (.aload_n 0, 1) := by decide +kernel
theorem dX6_whyNot_9 : decode cX6_whyNot 9 = .ok (.iload_n 2, 1) := by decide +kernel
theorem dX6_whyNot_10 : decode cX6_whyNot 10 = .ok (.invokevirtual 54, 3) := by decide +kernel
theorem dX6_whyNot_13 : decode cX6_whyNot 13 = .ok (.ifCond .ne 7, 3) := by decide +kernel
theorem dX6_whyNot_16 : decode cX6_whyNot 16 = .ok (.iconst (-1), 1) := by decide +kernel
theorem dX6_whyNot_17 : decode cX6_whyNot 17 = .ok (.goto 19, 3) := by decide +kernel
theorem dX6_whyNot_20 : decode cX6_whyNot 20 = .ok (.aload_n 0, 1) := by decide +kernel
theorem dX6_whyNot_21 : decode cX6_whyNot 21 = .ok (.iload_n 1, 1) := by decide +kernel
theorem dX6_whyNot_22 : decode cX6_whyNot 22 = .ok (.iconst 3, 1) := by decide +kernel
theorem dX6_whyNot_23 : decode cX6_whyNot 23 = .ok (.invokevirtual 62, 3) := by decide +kernel
theorem dX6_whyNot_26 : decode cX6_whyNot 26 = .ok (.iconst 3, 1) := by decide +kernel
theorem dX6_whyNot_27 : decode cX6_whyNot 27 = .ok (.if_icmp .ne 8, 3) := by decide +kernel
theorem dX6_whyNot_30 : decode cX6_whyNot 30 = .ok (.bipush (-3), 2) := by decide +kernel
theorem dX6_whyNot_32 : decode cX6_whyNot 32 = .ok (.goto 4, 3) := by decide +kernel
theorem dX6_whyNot_35 : decode cX6_whyNot 35 = .ok (.iconst 0, 1) := by decide +kernel
theorem dX6_whyNot_36 : decode cX6_whyNot 36 = .ok (.ireturn, 1) := by decide +kernel
theorem dX6_adds_0 : decode cX6_adds 0 = .ok (.aload_n 0, 1) := by decide +kernel
theorem dX6_adds_1 : decode cX6_adds 1 = .ok (.iload_n 1, 1) := by decide +kernel
theorem dX6_adds_2 : decode cX6_adds 2 = .ok (.iconst 3, 1) := by decide +kernel
theorem dX6_adds_3 : decode cX6_adds 3 = .ok (.invokevirtual 62, 3) := by decide +kernel
theorem dX6_adds_6 : decode cX6_adds 6 = .ok (.istore 5, 2) := by decide +kernel
theorem dX6_adds_8 : decode cX6_adds 8 = .ok (.iconst 1, 1) := by decide +kernel
theorem dX6_adds_9 : decode cX6_adds 9 = .ok (.bipush 13, 2) := by decide +kernel
theorem dX6_adds_11 : decode cX6_adds 11 = .ok (.iload_n 1, 1) := by decide +kernel
theorem dX6_adds_12 : decode cX6_adds 12 = .ok (.imul, 1) := by decide +kernel
theorem dX6_adds_13 : decode cX6_adds 13 = .ok (.iadd, 1) := by decide +kernel
theorem dX6_adds_14 : decode cX6_adds 14 = .ok (.iconst 4, 1) := by decide +kernel
theorem dX6_adds_15 : decode cX6_adds 15 = .ok (.iadd, 1) := by decide +kernel
theorem dX6_adds_16 : decode cX6_adds 16 = .ok (.iconst 3, 1) := by decide +kernel
theorem dX6_adds_17 : decode cX6_adds 17 = .ok (.iload 5, 2) := by decide +kernel
theorem dX6_adds_19 : decode cX6_adds 19 = .ok (.imul, 1) := by decide +kernel
theorem dX6_adds_20 : decode cX6_adds 20 = .ok (.iadd, 1) := by decide +kernel
theorem dX6_adds_21 : decode cX6_adds 21 = .ok (.istore 6, 2) := by decide +kernel
theorem dX6_adds_23 : decode cX6_adds 23 = .ok (.aload_n 0, 1) := by decide +kernel
theorem dX6_adds_24 : decode cX6_adds 24 = .ok (.getfield 7, 3) := by decide +kernel
theorem dX6_adds_27 : decode cX6_adds 27 = .ok (.iload 6, 2) := by decide +kernel
theorem dX6_adds_29 : decode cX6_adds 29 = .ok (.iconst 0, 1) := by decide +kernel
theorem dX6_adds_30 : decode cX6_adds 30 = .ok (.iadd, 1) := by decide +kernel
theorem dX6_adds_31 : decode cX6_adds 31 = .ok (.iload_n 2, 1) := by decide +kernel
theorem dX6_adds_32 : decode cX6_adds 32 = .ok (.iastore, 1) := by decide +kernel
theorem dX6_adds_33 : decode cX6_adds 33 = .ok (.aload_n 0, 1) := by decide +kernel
theorem dX6_adds_34 : decode cX6_adds 34 = .ok (.getfield 7, 3) := by decide +kernel
theorem dX6_adds_37 : decode cX6_adds 37 = .ok (.iload 6, 2) := by decide +kernel
theorem dX6_adds_39 : decode cX6_adds 39 = .ok (.iconst 1, 1) := by decide +kernel
theorem dX6_adds_40 : decode cX6_adds 40 = .ok (.iadd, 1) := by decide +kernel
theorem dX6_adds_41 : decode cX6_adds 41 = .ok (.iload_n 3, 1) := by decide +kernel
theorem dX6_adds_42 : decode cX6_adds 42 = .ok (.iastore, 1) := by decide +kernel
theorem dX6_adds_43 : decode cX6_adds 43 = .ok (.aload_n 0, 1) := by decide +kernel
theorem dX6_adds_44 : decode cX6_adds 44 = .ok (.getfield 7, 3) := by decide +kernel
theorem dX6_adds_47 : decode cX6_adds 47 = .ok (.iload 6, 2) := by decide +kernel
theorem dX6_adds_49 : decode cX6_adds 49 = .ok (.iconst 2, 1) := by decide +kernel
theorem dX6_adds_50 : decode cX6_adds 50 = .ok (.iadd, 1) := by decide +kernel
theorem dX6_adds_51 : decode cX6_adds 51 = .ok (.iload 4, 2) := by decide +kernel
theorem dX6_adds_53 : decode cX6_adds 53 = .ok (.iastore, 1) := by decide +kernel
theorem dX6_adds_54 : decode cX6_adds 54 = .ok (.aload_n 0, 1) := by decide +kernel
theorem dX6_adds_55 : decode cX6_adds 55 = .ok (.getfield 7, 3) := by decide +kernel
theorem dX6_adds_58 : decode cX6_adds 58 = .ok (.iconst 1, 1) := by decide +kernel
theorem dX6_adds_59 : decode cX6_adds 59 = .ok (.bipush 13, 2) := by decide +kernel
theorem dX6_adds_61 : decode cX6_adds 61 = .ok (.iload_n 1, 1) := by decide +kernel
theorem dX6_adds_62 : decode cX6_adds 62 = .ok (.imul, 1) := by decide +kernel
theorem dX6_adds_63 : decode cX6_adds 63 = .ok (.iadd, 1) := by decide +kernel
theorem dX6_adds_64 : decode cX6_adds 64 = .ok (.iconst 3, 1) := by decide +kernel
theorem dX6_adds_65 : decode cX6_adds 65 = .ok (.iadd, 1) := by decide +kernel
theorem dX6_adds_66 : decode cX6_adds 66 = .ok (.dup2, 1) := by decide +kernel
theorem dX6_adds_67 : decode cX6_adds 67 = .ok (.iaload, 1) := by decide +kernel
theorem dX6_adds_68 : decode cX6_adds 68 = .ok (.iconst 1, 1) := by decide +kernel
theorem dX6_adds_69 : decode cX6_adds 69 = .ok (.iadd, 1) := by decide +kernel
theorem dX6_adds_70 : decode cX6_adds 70 = .ok (.iastore, 1) := by decide +kernel
theorem dX6_adds_71 : decode cX6_adds 71 = .ok (.iload 5, 2) := by decide +kernel
theorem dX6_adds_73 : decode cX6_adds 73 = .ok (.ireturn, 1) := by decide +kernel
theorem dX6_addChoice_0 : decode cX6_addChoice 0 = .ok (.aload_n 0, 1) := by decide +kernel
theorem dX6_addChoice_1 : decode cX6_addChoice 1 = .ok (.iload_n 1, 1) := by decide +kernel
theorem dX6_addChoice_2 : decode cX6_addChoice 2 = .ok (.iload_n 2, 1) := by decide +kernel
theorem dX6_addChoice_3 : decode cX6_addChoice 3 = .ok (.invokevirtual 117, 3) := by decide +kernel
theorem dX6_addChoice_6 : decode cX6_addChoice 6 = .ok (.istore 5, 2) := by decide +kernel
theorem dX6_addChoice_8 : decode cX6_addChoice 8 = .ok (.iload 5, 2) := by decide +kernel
theorem dX6_addChoice_10 : decode cX6_addChoice 10 = .ok (.iconst (-1), 1) := by decide +kernel
theorem dX6_addChoice_11 : decode cX6_addChoice 11 = .ok (.if_icmp .ne 5, 3) := by decide +kernel
theorem dX6_addChoice_14 : decode cX6_addChoice 14 = .ok (.iconst (-1), 1) := by decide +kernel
theorem dX6_addChoice_15 : decode cX6_addChoice 15 = .ok (.ireturn, 1) := by decide +kernel
theorem dX6_addChoice_16 : decode cX6_addChoice 16 = .ok (.iload_n 3, 1) := by decide +kernel
theorem dX6_addChoice_17 : decode cX6_addChoice 17 = .ok (.invokestatic 111, 3) := by decide +kernel
theorem dX6_addChoice_20 : decode cX6_addChoice 20 = .ok (.ifCond .eq 11, 3) := by decide +kernel
theorem dX6_addChoice_23 : decode cX6_addChoice 23 = .ok (.iload 4, 2) := by decide +kernel
theorem dX6_addChoice_25 : decode cX6_addChoice 25 = .ok (.invokestatic 111, 3) := by decide +kernel
theorem dX6_addChoice_28 : decode cX6_addChoice 28 = .ok (.ifCond .ne 6, 3) := by decide +kernel
theorem dX6_addChoice_31 : decode cX6_addChoice 31 = .ok (.bipush (-2), 2) := by decide +kernel
theorem dX6_addChoice_33 : decode cX6_addChoice 33 = .ok (.ireturn, 1) := by decide +kernel
theorem dX6_addChoice_34 : decode cX6_addChoice 34 = .ok (.iload 5, 2) := by decide +kernel
theorem dX6_addChoice_36 : decode cX6_addChoice 36 = .ok (.ifCond .ge 6, 3) := by decide +kernel
theorem dX6_addChoice_39 : decode cX6_addChoice 39 = .ok (.iload 5, 2) := by decide +kernel
theorem dX6_addChoice_41 : decode cX6_addChoice 41 = .ok (.ireturn, 1) := by decide +kernel
theorem dX6_addChoice_42 : decode cX6_addChoice 42 = .ok (.aload_n 0, 1) := by decide +kernel
theorem dX6_addChoice_43 : decode cX6_addChoice 43 = .ok (.invokevirtual 114, 3) := by decide +kernel
theorem dX6_addChoice_46 : decode cX6_addChoice 46 = .ok (.aload_n 0, 1) := by decide +kernel
theorem dX6_addChoice_47 : decode cX6_addChoice 47 = .ok (.iload_n 1, 1) := by decide +kernel
theorem dX6_addChoice_48 : decode cX6_addChoice 48 = .ok (.iload_n 2, 1) := by decide +kernel
theorem dX6_addChoice_49 : decode cX6_addChoice 49 = .ok (.iload_n 3, 1) := by decide +kernel
theorem dX6_addChoice_50 : decode cX6_addChoice 50 = .ok (.iload 4, 2) := by decide +kernel
theorem dX6_addChoice_52 : decode cX6_addChoice 52 = .ok (.invokevirtual 120, 3) := by decide +kernel
theorem dX6_addChoice_55 : decode cX6_addChoice 55 = .ok (.ireturn, 1) := by decide +kernel
theorem dX6_takeChoice_0 : decode cX6_takeChoice 0 = .ok (.aload_n 0, 1) := by decide +kernel
theorem dX6_takeChoice_1 : decode cX6_takeChoice 1 = .ok (.iload_n 1, 1) := by decide +kernel
theorem dX6_takeChoice_2 : decode cX6_takeChoice 2 = .ok (.iload_n 2, 1) := by decide +kernel
theorem dX6_takeChoice_3 : decode cX6_takeChoice 3 = .ok (.invokevirtual 124, 3) := by decide +kernel
theorem dX6_takeChoice_6 : decode cX6_takeChoice 6 = .ok (.ifCond .ne 5, 3) := by decide +kernel
theorem dX6_takeChoice_9 : decode cX6_takeChoice 9 = .ok (.iconst (-1), 1) := by decide +kernel
theorem dX6_takeChoice_10 : decode cX6_takeChoice 10 = .ok (.ireturn, 1) := by decide +kernel
theorem dX6_takeChoice_11 : decode cX6_takeChoice 11 = .ok (.aload_n 0, 1) := by decide +kernel
theorem dX6_takeChoice_12 : decode cX6_takeChoice 12 = .ok (.invokevirtual 114, 3) := by decide +kernel
theorem dX6_takeChoice_15 : decode cX6_takeChoice 15 = .ok (.aload_n 0, 1) := by decide +kernel
theorem dX6_takeChoice_16 : decode cX6_takeChoice 16 = .ok (.iload_n 1, 1) := by decide +kernel
theorem dX6_takeChoice_17 : decode cX6_takeChoice 17 = .ok (.iload_n 2, 1) := by decide +kernel
theorem dX6_takeChoice_18 : decode cX6_takeChoice 18 = .ok (.iconst 0, 1) := by decide +kernel
theorem dX6_takeChoice_19 : decode cX6_takeChoice 19 = .ok (.invokevirtual 58, 3) := by decide +kernel
theorem dX6_takeChoice_22 : decode cX6_takeChoice 22 = .ok (.istore_n 3, 1) := by decide +kernel
theorem dX6_takeChoice_23 : decode cX6_takeChoice 23 = .ok (.iconst 1, 1) := by decide +kernel
theorem dX6_takeChoice_24 : decode cX6_takeChoice 24 = .ok (.bipush 13, 2) := by decide +kernel
theorem dX6_takeChoice_26 : decode cX6_takeChoice 26 = .ok (.iload_n 1, 1) := by decide +kernel
theorem dX6_takeChoice_27 : decode cX6_takeChoice 27 = .ok (.imul, 1) := by decide +kernel
theorem dX6_takeChoice_28 : decode cX6_takeChoice 28 = .ok (.iadd, 1) := by decide +kernel
theorem dX6_takeChoice_29 : decode cX6_takeChoice 29 = .ok (.iconst 4, 1) := by decide +kernel
theorem dX6_takeChoice_30 : decode cX6_takeChoice 30 = .ok (.iadd, 1) := by decide +kernel
theorem dX6_takeChoice_31 : decode cX6_takeChoice 31 = .ok (.iconst 3, 1) := by decide +kernel
theorem dX6_takeChoice_32 : decode cX6_takeChoice 32 = .ok (.aload_n 0, 1) := by decide +kernel
theorem dX6_takeChoice_33 : decode cX6_takeChoice 33 = .ok (.iload_n 1, 1) := by decide +kernel
theorem dX6_takeChoice_34 : decode cX6_takeChoice 34 = .ok (.iconst 3, 1) := by decide +kernel
theorem dX6_takeChoice_35 : decode cX6_takeChoice 35 = .ok (.invokevirtual 62, 3) := by decide +kernel
theorem dX6_takeChoice_38 : decode cX6_takeChoice 38 = .ok (.iconst 1, 1) := by decide +kernel
theorem dX6_takeChoice_39 : decode cX6_takeChoice 39 = .ok (.isub, 1) := by decide +kernel
theorem dX6_takeChoice_40 : decode cX6_takeChoice 40 = .ok (.imul, 1) := by decide +kernel
theorem dX6_takeChoice_41 : decode cX6_takeChoice 41 = .ok (.iadd, 1) := by decide +kernel
theorem dX6_takeChoice_42 : decode cX6_takeChoice 42 = .ok (.istore 4, 2) := by decide +kernel
theorem dX6_takeChoice_44 : decode cX6_takeChoice 44 = .ok (.iconst 1, 1) := by decide +kernel
theorem dX6_takeChoice_45 : decode cX6_takeChoice 45 = .ok (.bipush 13, 2) := by decide +kernel
theorem dX6_takeChoice_47 : decode cX6_takeChoice 47 = .ok (.iload_n 1, 1) := by decide +kernel
theorem dX6_takeChoice_48 : decode cX6_takeChoice 48 = .ok (.imul, 1) := by decide +kernel
theorem dX6_takeChoice_49 : decode cX6_takeChoice 49 = .ok (.iadd, 1) := by decide +kernel
theorem dX6_takeChoice_50 : decode cX6_takeChoice 50 = .ok (.iconst 4, 1) := by decide +kernel
theorem dX6_takeChoice_51 : decode cX6_takeChoice 51 = .ok (.iadd, 1) := by decide +kernel
theorem dX6_takeChoice_52 : decode cX6_takeChoice 52 = .ok (.iconst 3, 1) := by decide +kernel
theorem dX6_takeChoice_53 : decode cX6_takeChoice 53 = .ok (.iload_n 2, 1) := by decide +kernel
theorem dX6_takeChoice_54 : decode cX6_takeChoice 54 = .ok (.imul, 1) := by decide +kernel
theorem dX6_takeChoice_55 : decode cX6_takeChoice 55 = .ok (.iadd, 1) := by decide +kernel
theorem dX6_takeChoice_56 : decode cX6_takeChoice 56 = .ok (.istore 5, 2) := by decide +kernel
theorem dX6_takeChoice_58 : decode cX6_takeChoice 58 = .ok (.iload 5, 2) := by decide +kernel
theorem dX6_takeChoice_60 : decode cX6_takeChoice 60 = .ok (.iload 4, 2) := by decide +kernel
theorem dX6_takeChoice_62 : decode cX6_takeChoice 62 = .ok (.if_icmp .ge 25, 3) := by decide +kernel
theorem dX6_takeChoice_65 : decode cX6_takeChoice 65 = .ok (.aload_n 0, 1) := by decide +kernel
theorem dX6_takeChoice_66 : decode cX6_takeChoice 66 = .ok (.getfield 7, 3) := by decide +kernel
theorem dX6_takeChoice_69 : decode cX6_takeChoice 69 = .ok (.iload 5, 2) := by decide +kernel
theorem dX6_takeChoice_71 : decode cX6_takeChoice 71 = .ok (.aload_n 0, 1) := by decide +kernel
theorem dX6_takeChoice_72 : decode cX6_takeChoice 72 = .ok (.getfield 7, 3) := by decide +kernel
theorem dX6_takeChoice_75 : decode cX6_takeChoice 75 = .ok (.iload 5, 2) := by decide +kernel
theorem dX6_takeChoice_77 : decode cX6_takeChoice 77 = .ok (.iconst 3, 1) := by decide +kernel
theorem dX6_takeChoice_78 : decode cX6_takeChoice 78 = .ok (.iadd, 1) := by decide +kernel
theorem dX6_takeChoice_79 : decode cX6_takeChoice 79 = .ok (.iaload, 1) := by decide +kernel
theorem dX6_takeChoice_80 : decode cX6_takeChoice 80 = .ok (.iastore, 1) := by decide +kernel
theorem dX6_takeChoice_81 : decode cX6_takeChoice 81 = .ok (.iinc 5 1, 3) := by decide +kernel
theorem dX6_takeChoice_84 : decode cX6_takeChoice 84 = .ok (.goto (-26), 3) := by decide +kernel
theorem dX6_takeChoice_87 : decode cX6_takeChoice 87 = .ok (.aload_n 0, 1) := by decide +kernel
theorem dX6_takeChoice_88 : decode cX6_takeChoice 88 = .ok (.getfield 7, 3) := by decide +kernel
theorem dX6_takeChoice_91 : decode cX6_takeChoice 91 = .ok (.iconst 1, 1) := by decide +kernel
theorem dX6_takeChoice_92 : decode cX6_takeChoice 92 = .ok (.bipush 13, 2) := by decide +kernel
theorem dX6_takeChoice_94 : decode cX6_takeChoice 94 = .ok (.iload_n 1, 1) := by decide +kernel
theorem dX6_takeChoice_95 : decode cX6_takeChoice 95 = .ok (.imul, 1) := by decide +kernel
theorem dX6_takeChoice_96 : decode cX6_takeChoice 96 = .ok (.iadd, 1) := by decide +kernel
theorem dX6_takeChoice_97 : decode cX6_takeChoice 97 = .ok (.iconst 3, 1) := by decide +kernel
theorem dX6_takeChoice_98 : decode cX6_takeChoice 98 = .ok (.iadd, 1) := by decide +kernel
theorem dX6_takeChoice_99 : decode cX6_takeChoice 99 = .ok (.dup2, 1) := by decide +kernel
theorem dX6_takeChoice_100 : decode cX6_takeChoice 100 = .ok (.iaload, 1) := by decide +kernel
theorem dX6_takeChoice_101 : decode cX6_takeChoice 101 = .ok (.iconst 1, 1) := by decide +kernel
theorem dX6_takeChoice_102 : decode cX6_takeChoice 102 = .ok (.isub, 1) := by decide +kernel
theorem dX6_takeChoice_103 : decode cX6_takeChoice 103 = .ok (.iastore, 1) := by decide +kernel
theorem dX6_takeChoice_104 : decode cX6_takeChoice 104 = .ok (.iload_n 3, 1) := by decide +kernel
theorem dX6_takeChoice_105 : decode cX6_takeChoice 105 = .ok (.ireturn, 1) := by decide +kernel
theorem dX6_other_0 : decode cX6_other 0 = .ok (.iload_n 0, 1) := by decide +kernel
theorem dX6_other_1 : decode cX6_other 1 = .ok (.iload_n 1, 1) := by decide +kernel
theorem dX6_other_2 : decode cX6_other 2 = .ok (.if_icmp .ne 7, 3) := by decide +kernel
theorem dX6_other_5 : decode cX6_other 5 = .ok (.iload_n 2, 1) := by decide +kernel
theorem dX6_other_6 : decode cX6_other 6 = .ok (.goto 13, 3) := by decide +kernel
theorem dX6_other_9 : decode cX6_other 9 = .ok (.iload_n 0, 1) := by decide +kernel
theorem dX6_other_10 : decode cX6_other 10 = .ok (.iload_n 2, 1) := by decide +kernel
theorem dX6_other_11 : decode cX6_other 11 = .ok (.if_icmp .ne 7, 3) := by decide +kernel
theorem dX6_other_14 : decode cX6_other 14 = .ok (.iload_n 1, 1) := by decide +kernel
theorem dX6_other_15 : decode cX6_other 15 = .ok (.goto 4, 3) := by decide +kernel
theorem dX6_other_18 : decode cX6_other 18 = .ok (.iload_n 0, 1) := by decide +kernel
theorem dX6_other_19 : decode cX6_other 19 = .ok (.ireturn, 1) := by decide +kernel
theorem dX6_leadingTo_0 : decode cX6_leadingTo 0 = .ok (.iconst 0, 1) := by decide +kernel
theorem dX6_leadingTo_1 : decode cX6_leadingTo 1 = .ok (.istore_n 2, 1) := by decide +kernel
theorem dX6_leadingTo_2 : decode cX6_leadingTo 2 = .ok (.iconst 0, 1) := by decide +kernel
theorem dX6_leadingTo_3 : decode cX6_leadingTo 3 = .ok (.istore_n 3, 1) := by decide +kernel
theorem dX6_leadingTo_4 : decode cX6_leadingTo 4 = .ok (.iload_n 3, 1) := by decide +kernel
theorem dX6_leadingTo_5 : decode cX6_leadingTo 5 = .ok (.aload_n 0, 1) := by decide +kernel
theorem dX6_leadingTo_6 : decode cX6_leadingTo 6 = .ok (.getfield 7, 3) := by decide +kernel
theorem dX6_leadingTo_9 : decode cX6_leadingTo 9 = .ok (.iconst 0, 1) := by decide +kernel
theorem dX6_leadingTo_10 : decode cX6_leadingTo 10 = .ok (.iaload, 1) := by decide +kernel
theorem dX6_leadingTo_11 : decode cX6_leadingTo 11 = .ok (.if_icmp .ge 49, 3) := by decide +kernel
theorem dX6_leadingTo_14 : decode cX6_leadingTo 14 = .ok (.iconst 0, 1) := by decide +kernel
theorem dX6_leadingTo_15 : decode cX6_leadingTo 15 = .ok (.istore 4, 2) := by decide +kernel
theorem dX6_leadingTo_17 : decode cX6_leadingTo 17 = .ok (.iload 4, 2) := by decide +kernel
theorem dX6_leadingTo_19 : decode cX6_leadingTo 19 = .ok (.aload_n 0, 1) := by decide +kernel
theorem dX6_leadingTo_20 : decode cX6_leadingTo 20 = .ok (.iload_n 3, 1) := by decide +kernel
theorem dX6_leadingTo_21 : decode cX6_leadingTo 21 = .ok (.iconst 3, 1) := by decide +kernel
theorem dX6_leadingTo_22 : decode cX6_leadingTo 22 = .ok (.invokevirtual 62, 3) := by decide +kernel
theorem dX6_leadingTo_25 : decode cX6_leadingTo 25 = .ok (.if_icmp .ge 29, 3) := by decide +kernel
theorem dX6_leadingTo_28 : decode cX6_leadingTo 28 = .ok (.iload_n 2, 1) := by decide +kernel
theorem dX6_leadingTo_29 : decode cX6_leadingTo 29 = .ok (.aload_n 0, 1) := by decide +kernel
theorem dX6_leadingTo_30 : decode cX6_leadingTo 30 = .ok (.iload_n 3, 1) := by decide +kernel
theorem dX6_leadingTo_31 : decode cX6_leadingTo 31 = .ok (.iload 4, 2) := by decide +kernel
theorem dX6_leadingTo_33 : decode cX6_leadingTo 33 = .ok (.iconst 0, 1) := by decide +kernel
theorem dX6_leadingTo_34 : decode cX6_leadingTo 34 = .ok (.invokevirtual 58, 3) := by decide +kernel
theorem dX6_leadingTo_37 : decode cX6_leadingTo 37 = .ok (.iload_n 1, 1) := by decide +kernel
theorem dX6_leadingTo_38 : decode cX6_leadingTo 38 = .ok (.if_icmp .ne 7, 3) := by decide +kernel
theorem dX6_leadingTo_41 : decode cX6_leadingTo 41 = .ok (.iconst 1, 1) := by decide +kernel
theorem dX6_leadingTo_42 : decode cX6_leadingTo 42 = .ok (.goto 4, 3) := by decide +kernel
theorem dX6_leadingTo_45 : decode cX6_leadingTo 45 = .ok (.iconst 0, 1) := by decide +kernel
theorem dX6_leadingTo_46 : decode cX6_leadingTo 46 = .ok (.iadd, 1) := by decide +kernel
theorem dX6_leadingTo_47 : decode cX6_leadingTo 47 = .ok (.istore_n 2, 1) := by decide +kernel
theorem dX6_leadingTo_48 : decode cX6_leadingTo 48 = .ok (.iinc 4 1, 3) := by decide +kernel
theorem dX6_leadingTo_51 : decode cX6_leadingTo 51 = .ok (.goto (-34), 3) := by decide +kernel
theorem dX6_leadingTo_54 : decode cX6_leadingTo 54 = .ok (.iinc 3 1, 3) := by decide +kernel
theorem dX6_leadingTo_57 : decode cX6_leadingTo 57 = .ok (.goto (-53), 3) := by decide +kernel
theorem dX6_leadingTo_60 : decode cX6_leadingTo 60 = .ok (.iload_n 2, 1) := by decide +kernel
theorem dX6_leadingTo_61 : decode cX6_leadingTo 61 = .ok (.ireturn, 1) := by decide +kernel
theorem dX6_exchange_0 : decode cX6_exchange 0 = .ok (.aload_n 0, 1) := by decide +kernel
theorem dX6_exchange_1 : decode cX6_exchange 1 = .ok (.iload_n 1, 1) := by decide +kernel
theorem dX6_exchange_2 : decode cX6_exchange 2 = .ok (.invokevirtual 54, 3) := by decide +kernel
theorem dX6_exchange_5 : decode cX6_exchange 5 = .ok (.ifCond .eq 16, 3) := by decide +kernel
theorem dX6_exchange_8 : decode cX6_exchange 8 = .ok (.aload_n 0, 1) := by decide +kernel
theorem dX6_exchange_9 : decode cX6_exchange 9 = .ok (.iload_n 2, 1) := by decide +kernel
theorem dX6_exchange_10 : decode cX6_exchange 10 = .ok (.invokevirtual 54, 3) := by decide +kernel
theorem dX6_exchange_13 : decode cX6_exchange 13 = .ok (.ifCond .eq 8, 3) := by decide +kernel
theorem dX6_exchange_16 : decode cX6_exchange 16 = .ok (.iload_n 1, 1) := by decide +kernel
theorem dX6_exchange_17 : decode cX6_exchange 17 = .ok (.iload_n 2, 1) := by decide +kernel
theorem dX6_exchange_18 : decode cX6_exchange 18 = .ok (.if_icmp .ne 26, 3) := by decide +kernel
theorem dX6_exchange_21 : decode cX6_exchange 21 = .ok (.aload_n 0, 1) := by decide +kernel
theorem dX6_exchange_22 : decode cX6_exchange 22 = .ok (.iload_n 1, 1) := by decide +kernel
theorem dX6_exchange_23 : decode cX6_exchange 23 = .ok (.invokevirtual 54, 3) := by decide +kernel
theorem dX6_exchange_26 : decode cX6_exchange 26 = .ok (.ifCond .eq 16, 3) := by decide +kernel
theorem dX6_exchange_29 : decode cX6_exchange 29 = .ok (.aload_n 0, 1) := by decide +kernel
theorem dX6_exchange_30 : decode cX6_exchange 30 = .ok (.iload_n 2, 1) := by decide +kernel
theorem dX6_exchange_31 : decode cX6_exchange 31 = .ok (.invokevirtual 54, 3) := by decide +kernel
theorem dX6_exchange_34 : decode cX6_exchange 34 = .ok (.ifCond .eq 8, 3) := by decide +kernel
theorem dX6_exchange_37 : decode cX6_exchange 37 = .ok (.bipush (-5), 2) := by decide +kernel
theorem dX6_exchange_39 : decode cX6_exchange 39 = .ok (.goto 4, 3) := by decide +kernel
theorem dX6_exchange_42 : decode cX6_exchange 42 = .ok (.iconst (-1), 1) := by decide +kernel
theorem dX6_exchange_43 : decode cX6_exchange 43 = .ok (.ireturn, 1) := by decide +kernel
theorem dX6_exchange_44 : decode cX6_exchange 44 = .ok (.aload_n 0, 1) := by decide +kernel
theorem dX6_exchange_45 : decode cX6_exchange 45 = .ok (.invokevirtual 114, 3) := by decide +kernel
theorem dX6_exchange_48 : decode cX6_exchange 48 = .ok (.aload_n 0, 1) := by decide +kernel
theorem dX6_exchange_49 : decode cX6_exchange 49 = .ok (.iload_n 1, 1) := by decide +kernel
theorem dX6_exchange_50 : decode cX6_exchange 50 = .ok (.invokevirtual 128, 3) := by decide +kernel
theorem dX6_exchange_53 : decode cX6_exchange 53 = .ok (.aload_n 0, 1) := by decide +kernel
theorem dX6_exchange_54 : decode cX6_exchange 54 = .ok (.iload_n 2, 1) := by decide +kernel
theorem dX6_exchange_55 : decode cX6_exchange 55 = .ok (.invokevirtual 128, 3) := by decide +kernel
theorem dX6_exchange_58 : decode cX6_exchange 58 = .ok (.iadd, 1) := by decide +kernel
theorem dX6_exchange_59 : decode cX6_exchange 59 = .ok (.istore_n 3, 1) := by decide +kernel
theorem dX6_exchange_60 : decode cX6_exchange 60 = .ok (.iconst 0, 1) := by decide +kernel
theorem dX6_exchange_61 : decode cX6_exchange 61 = .ok (.istore 4, 2) := by decide +kernel
theorem dX6_exchange_63 : decode cX6_exchange 63 = .ok (.iload 4, 2) := by decide +kernel
theorem dX6_exchange_65 : decode cX6_exchange 65 = .ok (.bipush 13, 2) := by decide +kernel
theorem dX6_exchange_67 : decode cX6_exchange 67 = .ok (.if_icmp .ge 55, 3) := by decide +kernel
theorem dX6_exchange_70 : decode cX6_exchange 70 = .ok (.aload_n 0, 1) := by decide +kernel
theorem dX6_exchange_71 : decode cX6_exchange 71 = .ok (.iload_n 1, 1) := by decide +kernel
theorem dX6_exchange_72 : decode cX6_exchange 72 = .ok (.iload 4, 2) := by decide +kernel
theorem dX6_exchange_74 : decode cX6_exchange 74 = .ok (.invokevirtual 62, 3) := by decide +kernel
theorem dX6_exchange_77 : decode cX6_exchange 77 = .ok (.istore 5, 2) := by decide +kernel
theorem dX6_exchange_79 : decode cX6_exchange 79 = .ok (.aload_n 0, 1) := by decide +kernel
theorem dX6_exchange_80 : decode cX6_exchange 80 = .ok (.getfield 7, 3) := by decide +kernel
theorem dX6_exchange_83 : decode cX6_exchange 83 = .ok (.iconst 1, 1) := by decide +kernel
theorem dX6_exchange_84 : decode cX6_exchange 84 = .ok (.bipush 13, 2) := by decide +kernel
theorem dX6_exchange_86 : decode cX6_exchange 86 = .ok (.iload_n 1, 1) := by decide +kernel
theorem dX6_exchange_87 : decode cX6_exchange 87 = .ok (.imul, 1) := by decide +kernel
theorem dX6_exchange_88 : decode cX6_exchange 88 = .ok (.iadd, 1) := by decide +kernel
theorem dX6_exchange_89 : decode cX6_exchange 89 = .ok (.iload 4, 2) := by decide +kernel
theorem dX6_exchange_91 : decode cX6_exchange 91 = .ok (.iadd, 1) := by decide +kernel
theorem dX6_exchange_92 : decode cX6_exchange 92 = .ok (.aload_n 0, 1) := by decide +kernel
theorem dX6_exchange_93 : decode cX6_exchange 93 = .ok (.iload_n 2, 1) := by decide +kernel
theorem dX6_exchange_94 : decode cX6_exchange 94 = .ok (.iload 4, 2) := by decide +kernel
theorem dX6_exchange_96 : decode cX6_exchange 96 = .ok (.invokevirtual 62, 3) := by decide +kernel
theorem dX6_exchange_99 : decode cX6_exchange 99 = .ok (.iastore, 1) := by decide +kernel
theorem dX6_exchange_100 : decode cX6_exchange 100 = .ok (.aload_n 0, 1) := by decide +kernel
theorem dX6_exchange_101 : decode cX6_exchange 101 = .ok (.getfield 7, 3) := by decide +kernel
theorem dX6_exchange_104 : decode cX6_exchange 104 = .ok (.iconst 1, 1) := by decide +kernel
theorem dX6_exchange_105 : decode cX6_exchange 105 = .ok (.bipush 13, 2) := by decide +kernel
theorem dX6_exchange_107 : decode cX6_exchange 107 = .ok (.iload_n 2, 1) := by decide +kernel
theorem dX6_exchange_108 : decode cX6_exchange 108 = .ok (.imul, 1) := by decide +kernel
theorem dX6_exchange_109 : decode cX6_exchange 109 = .ok (.iadd, 1) := by decide +kernel
theorem dX6_exchange_110 : decode cX6_exchange 110 = .ok (.iload 4, 2) := by decide +kernel
theorem dX6_exchange_112 : decode cX6_exchange 112 = .ok (.iadd, 1) := by decide +kernel
theorem dX6_exchange_113 : decode cX6_exchange 113 = .ok (.iload 5, 2) := by decide +kernel
theorem dX6_exchange_115 : decode cX6_exchange 115 = .ok (.iastore, 1) := by decide +kernel
theorem dX6_exchange_116 : decode cX6_exchange 116 = .ok (.iinc 4 1, 3) := by decide +kernel
theorem dX6_exchange_119 : decode cX6_exchange 119 = .ok (.goto (-56), 3) := by decide +kernel
theorem dX6_exchange_122 : decode cX6_exchange 122 = .ok (.iconst 0, 1) := by decide +kernel
theorem dX6_exchange_123 : decode cX6_exchange 123 = .ok (.istore 4, 2) := by decide +kernel
theorem dX6_exchange_125 : decode cX6_exchange 125 = .ok (.iload 4, 2) := by decide +kernel
theorem dX6_exchange_127 : decode cX6_exchange 127 = .ok (.aload_n 0, 1) := by decide +kernel
theorem dX6_exchange_128 : decode cX6_exchange 128 = .ok (.getfield 7, 3) := by decide +kernel
theorem dX6_exchange_131 : decode cX6_exchange 131 = .ok (.iconst 0, 1) := by decide +kernel
theorem dX6_exchange_132 : decode cX6_exchange 132 = .ok (.iaload, 1) := by decide +kernel
theorem dX6_exchange_133 : decode cX6_exchange 133 = .ok (.if_icmp .ge 65, 3) := by decide +kernel
theorem dX6_exchange_136 : decode cX6_exchange 136 = .ok (.iconst 0, 1) := by decide +kernel
theorem dX6_exchange_137 : decode cX6_exchange 137 = .ok (.istore 5, 2) := by decide +kernel
theorem dX6_exchange_139 : decode cX6_exchange 139 = .ok (.iload 5, 2) := by decide +kernel
theorem dX6_exchange_141 : decode cX6_exchange 141 = .ok (.aload_n 0, 1) := by decide +kernel
theorem dX6_exchange_142 : decode cX6_exchange 142 = .ok (.iload 4, 2) := by decide +kernel
theorem dX6_exchange_144 : decode cX6_exchange 144 = .ok (.iconst 3, 1) := by decide +kernel
theorem dX6_exchange_145 : decode cX6_exchange 145 = .ok (.invokevirtual 62, 3) := by decide +kernel
theorem dX6_exchange_148 : decode cX6_exchange 148 = .ok (.if_icmp .ge 44, 3) := by decide +kernel
theorem dX6_exchange_151 : decode cX6_exchange 151 = .ok (.aload_n 0, 1) := by decide +kernel
theorem dX6_exchange_152 : decode cX6_exchange 152 = .ok (.getfield 7, 3) := by decide +kernel
theorem dX6_exchange_155 : decode cX6_exchange 155 = .ok (.iconst 1, 1) := by decide +kernel
theorem dX6_exchange_156 : decode cX6_exchange 156 = .ok (.bipush 13, 2) := by decide +kernel
theorem dX6_exchange_158 : decode cX6_exchange 158 = .ok (.iload 4, 2) := by decide +kernel
theorem dX6_exchange_160 : decode cX6_exchange 160 = .ok (.imul, 1) := by decide +kernel
theorem dX6_exchange_161 : decode cX6_exchange 161 = .ok (.iadd, 1) := by decide +kernel
theorem dX6_exchange_162 : decode cX6_exchange 162 = .ok (.iconst 4, 1) := by decide +kernel
theorem dX6_exchange_163 : decode cX6_exchange 163 = .ok (.iadd, 1) := by decide +kernel
theorem dX6_exchange_164 : decode cX6_exchange 164 = .ok (.iconst 3, 1) := by decide +kernel
theorem dX6_exchange_165 : decode cX6_exchange 165 = .ok (.iload 5, 2) := by decide +kernel
theorem dX6_exchange_167 : decode cX6_exchange 167 = .ok (.imul, 1) := by decide +kernel
theorem dX6_exchange_168 : decode cX6_exchange 168 = .ok (.iadd, 1) := by decide +kernel
theorem dX6_exchange_169 : decode cX6_exchange 169 = .ok (.iconst 0, 1) := by decide +kernel
theorem dX6_exchange_170 : decode cX6_exchange 170 = .ok (.iadd, 1) := by decide +kernel
theorem dX6_exchange_171 : decode cX6_exchange 171 = .ok (.aload_n 0, 1) := by decide +kernel
theorem dX6_exchange_172 : decode cX6_exchange 172 = .ok (.iload 4, 2) := by decide +kernel
theorem dX6_exchange_174 : decode cX6_exchange 174 = .ok (.iload 5, 2) := by decide +kernel
theorem dX6_exchange_176 : decode cX6_exchange 176 = .ok (.iconst 0, 1) := by decide +kernel
theorem dX6_exchange_177 : decode cX6_exchange 177 = .ok (.invokevirtual 58, 3) := by decide +kernel
theorem dX6_exchange_180 : decode cX6_exchange 180 = .ok (.iload_n 1, 1) := by decide +kernel
theorem dX6_exchange_181 : decode cX6_exchange 181 = .ok (.iload_n 2, 1) := by decide +kernel
theorem dX6_exchange_182 : decode cX6_exchange 182 = .ok (.invokestatic 132, 3) := by decide +kernel
theorem dX6_exchange_185 : decode cX6_exchange 185 = .ok (.iastore, 1) := by decide +kernel
theorem dX6_exchange_186 : decode cX6_exchange 186 = .ok (.iinc 5 1, 3) := by decide +kernel
theorem dX6_exchange_189 : decode cX6_exchange 189 = .ok (.goto (-50), 3) := by decide +kernel
theorem dX6_exchange_192 : decode cX6_exchange 192 = .ok (.iinc 4 1, 3) := by decide +kernel
theorem dX6_exchange_195 : decode cX6_exchange 195 = .ok (.goto (-70), 3) := by decide +kernel
theorem dX6_exchange_198 : decode cX6_exchange 198 = .ok (.aload_n 0, 1) := by decide +kernel
theorem dX6_exchange_199 : decode cX6_exchange 199 = .ok (.getfield 7, 3) := by decide +kernel
theorem dX6_exchange_202 : decode cX6_exchange 202 = .ok (.sipush 417, 3) := by decide +kernel
theorem dX6_exchange_205 : decode cX6_exchange 205 = .ok (.aload_n 0, 1) := by decide +kernel
theorem dX6_exchange_206 : decode cX6_exchange 206 = .ok (.getfield 7, 3) := by decide +kernel
theorem dX6_exchange_209 : decode cX6_exchange 209 = .ok (.sipush 417, 3) := by decide +kernel
theorem dX6_exchange_212 : decode cX6_exchange 212 = .ok (.iaload, 1) := by decide +kernel
theorem dX6_exchange_213 : decode cX6_exchange 213 = .ok (.iload_n 1, 1) := by decide +kernel
theorem dX6_exchange_214 : decode cX6_exchange 214 = .ok (.iload_n 2, 1) := by decide +kernel
theorem dX6_exchange_215 : decode cX6_exchange 215 = .ok (.invokestatic 132, 3) := by decide +kernel
theorem dX6_exchange_218 : decode cX6_exchange 218 = .ok (.iastore, 1) := by decide +kernel
theorem dX6_exchange_219 : decode cX6_exchange 219 = .ok (.aload_n 0, 1) := by decide +kernel
theorem dX6_exchange_220 : decode cX6_exchange 220 = .ok (.getfield 7, 3) := by decide +kernel
theorem dX6_exchange_223 : decode cX6_exchange 223 = .ok (.sipush 420, 3) := by decide +kernel
theorem dX6_exchange_226 : decode cX6_exchange 226 = .ok (.aload_n 0, 1) := by decide +kernel
theorem dX6_exchange_227 : decode cX6_exchange 227 = .ok (.getfield 7, 3) := by decide +kernel
theorem dX6_exchange_230 : decode cX6_exchange 230 = .ok (.sipush 420, 3) := by decide +kernel
theorem dX6_exchange_233 : decode cX6_exchange 233 = .ok (.iaload, 1) := by decide +kernel
theorem dX6_exchange_234 : decode cX6_exchange 234 = .ok (.iload_n 1, 1) := by decide +kernel
theorem dX6_exchange_235 : decode cX6_exchange 235 = .ok (.iload_n 2, 1) := by decide +kernel
theorem dX6_exchange_236 : decode cX6_exchange 236 = .ok (.invokestatic 132, 3) := by decide +kernel
theorem dX6_exchange_239 : decode cX6_exchange 239 = .ok (.iastore, 1) := by decide +kernel
theorem dX6_exchange_240 : decode cX6_exchange 240 = .ok (.aload_n 0, 1) := by decide +kernel
theorem dX6_exchange_241 : decode cX6_exchange 241 = .ok (.getfield 7, 3) := by decide +kernel
theorem dX6_exchange_244 : decode cX6_exchange 244 = .ok (.sipush 423, 3) := by decide +kernel
theorem dX6_exchange_247 : decode cX6_exchange 247 = .ok (.aload_n 0, 1) := by decide +kernel
theorem dX6_exchange_248 : decode cX6_exchange 248 = .ok (.getfield 7, 3) := by decide +kernel
theorem dX6_exchange_251 : decode cX6_exchange 251 = .ok (.sipush 423, 3) := by decide +kernel
theorem dX6_exchange_254 : decode cX6_exchange 254 = .ok (.iaload, 1) := by decide +kernel
theorem dX6_exchange_255 : decode cX6_exchange 255 = .ok (.iload_n 1, 1) := by decide +kernel
theorem dX6_exchange_256 : decode cX6_exchange 256 = .ok (.iload_n 2, 1) := by decide +kernel
theorem dX6_exchange_257 : decode cX6_exchange 257 = .ok (.invokestatic 132, 3) := by decide +kernel
theorem dX6_exchange_260 : decode cX6_exchange 260 = .ok (.iastore, 1) := by decide +kernel
theorem dX6_exchange_261 : decode cX6_exchange 261 = .ok (.iload_n 3, 1) := by decide +kernel
theorem dX6_exchange_262 : decode cX6_exchange 262 = .ok (.ireturn, 1) := by decide +kernel
theorem dX6_isReader_0 : decode cX6_isReader 0 = .ok (.iload_n 0, 1) := by decide +kernel
theorem dX6_isReader_1 : decode cX6_isReader 1 = .ok (.iconst 0, 1) := by decide +kernel
theorem dX6_isReader_2 : decode cX6_isReader 2 = .ok (.iconst 1, 1) := by decide +kernel
theorem dX6_isReader_3 : decode cX6_isReader 3 = .ok (.invokestatic 50, 3) := by decide +kernel
theorem dX6_isReader_6 : decode cX6_isReader 6 = .ok (.ireturn, 1) := by decide +kernel
theorem dX6_ofReader_0 : decode cX6_ofReader 0 = .ok (.aload_n 0, 1) := by decide +kernel
theorem dX6_ofReader_1 : decode cX6_ofReader 1 = .ok (.getfield 7, 3) := by decide +kernel
theorem dX6_ofReader_4 : decode cX6_ofReader 4 = .ok (.sipush 417, 3) := by decide +kernel
theorem dX6_ofReader_7 : decode cX6_ofReader 7 = .ok (.iconst 3, 1) := by decide +kernel
theorem dX6_ofReader_8 : decode cX6_ofReader 8 = .ok (.iload_n 1, 1) := by decide +kernel
theorem dX6_ofReader_9 : decode cX6_ofReader 9 = .ok (.imul, 1) := by decide +kernel
theorem dX6_ofReader_10 : decode cX6_ofReader 10 = .ok (.iadd, 1) := by decide +kernel
theorem dX6_ofReader_11 : decode cX6_ofReader 11 = .ok (.iload_n 2, 1) := by decide +kernel
theorem dX6_ofReader_12 : decode cX6_ofReader 12 = .ok (.iadd, 1) := by decide +kernel
theorem dX6_ofReader_13 : decode cX6_ofReader 13 = .ok (.iaload, 1) := by decide +kernel
theorem dX6_ofReader_14 : decode cX6_ofReader 14 = .ok (.ireturn, 1) := by decide +kernel
theorem dX6_goes_0 : decode cX6_goes 0 = .ok (.aload_n 0, 1) := by decide +kernel
theorem dX6_goes_1 : decode cX6_goes 1 = .ok (.getfield 7, 3) := by decide +kernel
theorem dX6_goes_4 : decode cX6_goes 4 = .ok (.sipush 417, 3) := by decide +kernel
theorem dX6_goes_7 : decode cX6_goes 7 = .ok (.iconst 3, 1) := by decide +kernel
theorem dX6_goes_8 : decode cX6_goes 8 = .ok (.iload_n 1, 1) := by decide +kernel
theorem dX6_goes_9 : decode cX6_goes 9 = .ok (.imul, 1) := by decide +kernel
theorem dX6_goes_10 : decode cX6_goes 10 = .ok (.iadd, 1) := by decide +kernel
theorem dX6_goes_11 : decode cX6_goes 11 = .ok (.iconst 0, 1) := by decide +kernel
theorem dX6_goes_12 : decode cX6_goes 12 = .ok (.iadd, 1) := by decide +kernel
theorem dX6_goes_13 : decode cX6_goes 13 = .ok (.iload_n 2, 1) := by decide +kernel
theorem dX6_goes_14 : decode cX6_goes 14 = .ok (.iastore, 1) := by decide +kernel
theorem dX6_goes_15 : decode cX6_goes 15 = .ok (.aload_n 0, 1) := by decide +kernel
theorem dX6_goes_16 : decode cX6_goes 16 = .ok (.getfield 7, 3) := by decide +kernel
theorem dX6_goes_19 : decode cX6_goes 19 = .ok (.sipush 417, 3) := by decide +kernel
theorem dX6_goes_22 : decode cX6_goes 22 = .ok (.iconst 3, 1) := by decide +kernel
theorem dX6_goes_23 : decode cX6_goes 23 = .ok (.iload_n 1, 1) := by decide +kernel
theorem dX6_goes_24 : decode cX6_goes 24 = .ok (.imul, 1) := by decide +kernel
theorem dX6_goes_25 : decode cX6_goes 25 = .ok (.iadd, 1) := by decide +kernel
theorem dX6_goes_26 : decode cX6_goes 26 = .ok (.iconst 1, 1) := by decide +kernel
theorem dX6_goes_27 : decode cX6_goes 27 = .ok (.iadd, 1) := by decide +kernel
theorem dX6_goes_28 : decode cX6_goes 28 = .ok (.iload_n 3, 1) := by decide +kernel
theorem dX6_goes_29 : decode cX6_goes 29 = .ok (.iastore, 1) := by decide +kernel
theorem dX6_goes_30 : decode cX6_goes 30 = .ok (.aload_n 0, 1) := by decide +kernel
theorem dX6_goes_31 : decode cX6_goes 31 = .ok (.getfield 7, 3) := by decide +kernel
theorem dX6_goes_34 : decode cX6_goes 34 = .ok (.sipush 417, 3) := by decide +kernel
theorem dX6_goes_37 : decode cX6_goes 37 = .ok (.iconst 3, 1) := by decide +kernel
theorem dX6_goes_38 : decode cX6_goes 38 = .ok (.iload_n 1, 1) := by decide +kernel
theorem dX6_goes_39 : decode cX6_goes 39 = .ok (.imul, 1) := by decide +kernel
theorem dX6_goes_40 : decode cX6_goes 40 = .ok (.iadd, 1) := by decide +kernel
theorem dX6_goes_41 : decode cX6_goes 41 = .ok (.iconst 2, 1) := by decide +kernel
theorem dX6_goes_42 : decode cX6_goes 42 = .ok (.iadd, 1) := by decide +kernel
theorem dX6_goes_43 : decode cX6_goes 43 = .ok (.iload 4, 2) := by decide +kernel
theorem dX6_goes_45 : decode cX6_goes 45 = .ok (.iastore, 1) := by decide +kernel
theorem dX6_goes_46 : decode cX6_goes 46 = .ok (.return_, 1) := by decide +kernel
theorem dX6_begin_0 : decode cX6_begin 0 = .ok (.iload_n 1, 1) := by decide +kernel
theorem dX6_begin_1 : decode cX6_begin 1 = .ok (.invokestatic 135, 3) := by decide +kernel
theorem dX6_begin_4 : decode cX6_begin 4 = .ok (.ifCond .ne 5, 3) := by decide +kernel
theorem dX6_begin_7 : decode cX6_begin 7 = .ok (.iconst (-1), 1) := by decide +kernel
theorem dX6_begin_8 : decode cX6_begin 8 = .ok (.ireturn, 1) := by decide +kernel
theorem dX6_begin_9 : decode cX6_begin 9 = .ok (.aload_n 0, 1) := by decide +kernel
theorem dX6_begin_10 : decode cX6_begin 10 = .ok (.getfield 7, 3) := by decide +kernel
theorem dX6_begin_13 : decode cX6_begin 13 = .ok (.iconst 0, 1) := by decide +kernel
theorem dX6_begin_14 : decode cX6_begin 14 = .ok (.iaload, 1) := by decide +kernel
theorem dX6_begin_15 : decode cX6_begin 15 = .ok (.ifCond .ne 6, 3) := by decide +kernel
theorem dX6_begin_18 : decode cX6_begin 18 = .ok (.bipush (-4), 2) := by decide +kernel
theorem dX6_begin_20 : decode cX6_begin 20 = .ok (.ireturn, 1) := by decide +kernel
theorem dX6_begin_21 : decode cX6_begin 21 = .ok (.aload_n 0, 1) := by decide +kernel
theorem dX6_begin_22 : decode cX6_begin 22 = .ok (.invokevirtual 114, 3) := by decide +kernel
theorem dX6_begin_25 : decode cX6_begin 25 = .ok (.aload_n 0, 1) := by decide +kernel
theorem dX6_begin_26 : decode cX6_begin 26 = .ok (.iload_n 1, 1) := by decide +kernel
theorem dX6_begin_27 : decode cX6_begin 27 = .ok (.iconst 0, 1) := by decide +kernel
theorem dX6_begin_28 : decode cX6_begin 28 = .ok (.aload_n 0, 1) := by decide +kernel
theorem dX6_begin_29 : decode cX6_begin 29 = .ok (.invokevirtual 89, 3) := by decide +kernel
theorem dX6_begin_32 : decode cX6_begin 32 = .ok (.iconst 0, 1) := by decide +kernel
theorem dX6_begin_33 : decode cX6_begin 33 = .ok (.invokevirtual 138, 3) := by decide +kernel
theorem dX6_begin_36 : decode cX6_begin 36 = .ok (.aload_n 0, 1) := by decide +kernel
theorem dX6_begin_37 : decode cX6_begin 37 = .ok (.invokevirtual 89, 3) := by decide +kernel
theorem dX6_begin_40 : decode cX6_begin 40 = .ok (.ireturn, 1) := by decide +kernel
theorem dX6_reason_0 : decode cX6_reason 0 = .ok (.aload_n 0, 1) := by decide +kernel
theorem dX6_reason_1 : decode cX6_reason 1 = .ok (.iload_n 1, 1) := by decide +kernel
theorem dX6_reason_2 : decode cX6_reason 2 = .ok (.iconst 0, 1) := by decide +kernel
theorem dX6_reason_3 : decode cX6_reason 3 = .ok (.invokevirtual 141, 3) := by decide +kernel
theorem dX6_reason_6 : decode cX6_reason 6 = .ok (.istore_n 3, 1) := by decide +kernel
theorem dX6_reason_7 : decode cX6_reason 7 = .ok (.iload_n 3, 1) := by decide +kernel
theorem dX6_reason_8 : decode cX6_reason 8 = .ok (.bipush (-5), 2) := by decide +kernel
theorem dX6_reason_10 : decode cX6_reason 10 = .ok (.if_icmp .eq 13, 3) := by decide +kernel
theorem dX6_reason_13 : decode cX6_reason 13 = .ok (.iload_n 2, 1) := by decide +kernel
theorem dX6_reason_14 : decode cX6_reason 14 = .ok (.aload_n 0, 1) := by decide +kernel
theorem dX6_reason_15 : decode cX6_reason 15 = .ok (.iload_n 3, 1) := by decide +kernel
theorem dX6_reason_16 : decode cX6_reason 16 = .ok (.iconst 3, 1) := by decide +kernel
theorem dX6_reason_17 : decode cX6_reason 17 = .ok (.invokevirtual 62, 3) := by decide +kernel
theorem dX6_reason_20 : decode cX6_reason 20 = .ok (.if_icmp .lt 15, 3) := by decide +kernel
theorem dX6_reason_23 : decode cX6_reason 23 = .ok (.iload_n 3, 1) := by decide +kernel
theorem dX6_reason_24 : decode cX6_reason 24 = .ok (.bipush (-5), 2) := by decide +kernel
theorem dX6_reason_26 : decode cX6_reason 26 = .ok (.if_icmp .ne 7, 3) := by decide +kernel
theorem dX6_reason_29 : decode cX6_reason 29 = .ok (.iconst 1, 1) := by decide +kernel
theorem dX6_reason_30 : decode cX6_reason 30 = .ok (.goto 4, 3) := by decide +kernel
theorem dX6_reason_33 : decode cX6_reason 33 = .ok (.iconst 2, 1) := by decide +kernel
theorem dX6_reason_34 : decode cX6_reason 34 = .ok (.ireturn, 1) := by decide +kernel
theorem dX6_reason_35 : decode cX6_reason 35 = .ok (.aload_n 0, 1) := by decide +kernel
theorem dX6_reason_36 : decode cX6_reason 36 = .ok (.iload_n 1, 1) := by decide +kernel
theorem dX6_reason_37 : decode cX6_reason 37 = .ok (.iconst 1, 1) := by decide +kernel
theorem dX6_reason_38 : decode cX6_reason 38 = .ok (.invokevirtual 141, 3) := by decide +kernel
theorem dX6_reason_41 : decode cX6_reason 41 = .ok (.istore 4, 2) := by decide +kernel
theorem dX6_reason_43 : decode cX6_reason 43 = .ok (.aload_n 0, 1) := by decide +kernel
theorem dX6_reason_44 : decode cX6_reason 44 = .ok (.iload_n 3, 1) := by decide +kernel
theorem dX6_reason_45 : decode cX6_reason 45 = .ok (.iload_n 2, 1) := by decide +kernel
theorem dX6_reason_46 : decode cX6_reason 46 = .ok (.iconst 1, 1) := by decide +kernel
theorem dX6_reason_47 : decode cX6_reason 47 = .ok (.invokevirtual 58, 3) := by decide +kernel
theorem dX6_reason_50 : decode cX6_reason 50 = .ok (.iload 4, 2) := by decide +kernel
theorem dX6_reason_52 : decode cX6_reason 52 = .ok (.iconst (-1), 1) := by decide +kernel
theorem dX6_reason_53 : decode cX6_reason 53 = .ok (.ixor, 1) := by decide +kernel
theorem dX6_reason_54 : decode cX6_reason 54 = .ok (.iand, 1) := by decide +kernel
theorem dX6_reason_55 : decode cX6_reason 55 = .ok (.ifCond .eq 7, 3) := by decide +kernel
theorem dX6_reason_58 : decode cX6_reason 58 = .ok (.iconst 3, 1) := by decide +kernel
theorem dX6_reason_59 : decode cX6_reason 59 = .ok (.goto 21, 3) := by decide +kernel
theorem dX6_reason_62 : decode cX6_reason 62 = .ok (.aload_n 0, 1) := by decide +kernel
theorem dX6_reason_63 : decode cX6_reason 63 = .ok (.iload_n 3, 1) := by decide +kernel
theorem dX6_reason_64 : decode cX6_reason 64 = .ok (.iload_n 2, 1) := by decide +kernel
theorem dX6_reason_65 : decode cX6_reason 65 = .ok (.iconst 2, 1) := by decide +kernel
theorem dX6_reason_66 : decode cX6_reason 66 = .ok (.invokevirtual 58, 3) := by decide +kernel
theorem dX6_reason_69 : decode cX6_reason 69 = .ok (.iload 4, 2) := by decide +kernel
theorem dX6_reason_71 : decode cX6_reason 71 = .ok (.iand, 1) := by decide +kernel
theorem dX6_reason_72 : decode cX6_reason 72 = .ok (.ifCond .eq 7, 3) := by decide +kernel
theorem dX6_reason_75 : decode cX6_reason 75 = .ok (.iconst 4, 1) := by decide +kernel
theorem dX6_reason_76 : decode cX6_reason 76 = .ok (.goto 4, 3) := by decide +kernel
theorem dX6_reason_79 : decode cX6_reason 79 = .ok (.iconst 0, 1) := by decide +kernel
theorem dX6_reason_80 : decode cX6_reason 80 = .ok (.ireturn, 1) := by decide +kernel
theorem dX6_why_0 : decode cX6_why 0 = .ok (.iload_n 1, 1) := by decide +kernel
theorem dX6_why_1 : decode cX6_why 1 = .ok (.invokestatic 135, 3) := by decide +kernel
theorem dX6_why_4 : decode cX6_why 4 = .ok (.ifCond .ne 7, 3) := by decide +kernel
theorem dX6_why_7 : decode cX6_why 7 = .ok (.iconst (-1), 1) := by decide +kernel
theorem dX6_why_8 : decode cX6_why 8 = .ok (.goto 23, 3) := by decide +kernel
theorem dX6_why_11 : decode cX6_why 11 = .ok (.iload_n 2, 1) := by decide +kernel
theorem dX6_why_12 : decode cX6_why 12 = .ok (.iconst 0, 1) := by decide +kernel
theorem dX6_why_13 : decode cX6_why 13 = .ok (.iconst 2, 1) := by decide +kernel
theorem dX6_why_14 : decode cX6_why 14 = .ok (.invokestatic 50, 3) := by decide +kernel
theorem dX6_why_17 : decode cX6_why 17 = .ok (.ifCond .eq 12, 3) := by decide +kernel
theorem dX6_why_20 : decode cX6_why 20 = .ok (.aload_n 0, 1) := by decide +kernel
theorem dX6_why_21 : decode cX6_why 21 = .ok (.iload_n 1, 1) := by decide +kernel
theorem dX6_why_22 : decode cX6_why 22 = .ok (.iload_n 2, 1) := by decide +kernel
theorem dX6_why_23 : decode cX6_why 23 = .ok (.invokevirtual 144, 3) := by decide +kernel
theorem dX6_why_26 : decode cX6_why 26 = .ok (.goto 5, 3) := by decide +kernel
theorem dX6_why_29 : decode cX6_why 29 = .ok (.bipush (-2), 2) := by decide +kernel
theorem dX6_why_31 : decode cX6_why 31 = .ok (.ireturn, 1) := by decide +kernel
theorem dX6_choose_0 : decode cX6_choose 0 = .ok (.aload_n 0, 1) := by decide +kernel
theorem dX6_choose_1 : decode cX6_choose 1 = .ok (.iload_n 1, 1) := by decide +kernel
theorem dX6_choose_2 : decode cX6_choose 2 = .ok (.iload_n 2, 1) := by decide +kernel
theorem dX6_choose_3 : decode cX6_choose 3 = .ok (.invokevirtual 147, 3) := by decide +kernel
theorem dX6_choose_6 : decode cX6_choose 6 = .ok (.istore_n 3, 1) := by decide +kernel
theorem dX6_choose_7 : decode cX6_choose 7 = .ok (.iload_n 3, 1) := by decide +kernel
theorem dX6_choose_8 : decode cX6_choose 8 = .ok (.ifCond .eq 14, 3) := by decide +kernel
theorem dX6_choose_11 : decode cX6_choose 11 = .ok (.iload_n 3, 1) := by decide +kernel
theorem dX6_choose_12 : decode cX6_choose 12 = .ok (.ifCond .ge 7, 3) := by decide +kernel
theorem dX6_choose_15 : decode cX6_choose 15 = .ok (.iload_n 3, 1) := by decide +kernel
theorem dX6_choose_16 : decode cX6_choose 16 = .ok (.goto 5, 3) := by decide +kernel
theorem dX6_choose_19 : decode cX6_choose 19 = .ok (.bipush (-4), 2) := by decide +kernel
theorem dX6_choose_21 : decode cX6_choose 21 = .ok (.ireturn, 1) := by decide +kernel
theorem dX6_choose_22 : decode cX6_choose 22 = .ok (.aload_n 0, 1) := by decide +kernel
theorem dX6_choose_23 : decode cX6_choose 23 = .ok (.invokevirtual 114, 3) := by decide +kernel
theorem dX6_choose_26 : decode cX6_choose 26 = .ok (.aload_n 0, 1) := by decide +kernel
theorem dX6_choose_27 : decode cX6_choose 27 = .ok (.aload_n 0, 1) := by decide +kernel
theorem dX6_choose_28 : decode cX6_choose 28 = .ok (.iload_n 1, 1) := by decide +kernel
theorem dX6_choose_29 : decode cX6_choose 29 = .ok (.iconst 0, 1) := by decide +kernel
theorem dX6_choose_30 : decode cX6_choose 30 = .ok (.invokevirtual 141, 3) := by decide +kernel
theorem dX6_choose_33 : decode cX6_choose 33 = .ok (.iload_n 2, 1) := by decide +kernel
theorem dX6_choose_34 : decode cX6_choose 34 = .ok (.iconst 0, 1) := by decide +kernel
theorem dX6_choose_35 : decode cX6_choose 35 = .ok (.invokevirtual 58, 3) := by decide +kernel
theorem dX6_choose_38 : decode cX6_choose 38 = .ok (.istore 4, 2) := by decide +kernel
theorem dX6_choose_40 : decode cX6_choose 40 = .ok (.aload_n 0, 1) := by decide +kernel
theorem dX6_choose_41 : decode cX6_choose 41 = .ok (.iload_n 1, 1) := by decide +kernel
theorem dX6_choose_42 : decode cX6_choose 42 = .ok (.iload 4, 2) := by decide +kernel
theorem dX6_choose_44 : decode cX6_choose 44 = .ok (.aload_n 0, 1) := by decide +kernel
theorem dX6_choose_45 : decode cX6_choose 45 = .ok (.iload 4, 2) := by decide +kernel
theorem dX6_choose_47 : decode cX6_choose 47 = .ok (.aload_n 0, 1) := by decide +kernel
theorem dX6_choose_48 : decode cX6_choose 48 = .ok (.iload_n 1, 1) := by decide +kernel
theorem dX6_choose_49 : decode cX6_choose 49 = .ok (.iconst 1, 1) := by decide +kernel
theorem dX6_choose_50 : decode cX6_choose 50 = .ok (.invokevirtual 141, 3) := by decide +kernel
theorem dX6_choose_53 : decode cX6_choose 53 = .ok (.invokevirtual 73, 3) := by decide +kernel
theorem dX6_choose_56 : decode cX6_choose 56 = .ok (.aload_n 0, 1) := by decide +kernel
theorem dX6_choose_57 : decode cX6_choose 57 = .ok (.iload_n 1, 1) := by decide +kernel
theorem dX6_choose_58 : decode cX6_choose 58 = .ok (.iconst 2, 1) := by decide +kernel
theorem dX6_choose_59 : decode cX6_choose 59 = .ok (.invokevirtual 141, 3) := by decide +kernel
theorem dX6_choose_62 : decode cX6_choose 62 = .ok (.iconst 1, 1) := by decide +kernel
theorem dX6_choose_63 : decode cX6_choose 63 = .ok (.iadd, 1) := by decide +kernel
theorem dX6_choose_64 : decode cX6_choose 64 = .ok (.invokevirtual 138, 3) := by decide +kernel
theorem dX6_choose_67 : decode cX6_choose 67 = .ok (.iload 4, 2) := by decide +kernel
theorem dX6_choose_69 : decode cX6_choose 69 = .ok (.ireturn, 1) := by decide +kernel
theorem dX6_isMarked_0 : decode cX6_isMarked 0 = .ok (.aload_n 0, 1) := by decide +kernel
theorem dX6_isMarked_1 : decode cX6_isMarked 1 = .ok (.getfield 7, 3) := by decide +kernel
theorem dX6_isMarked_4 : decode cX6_isMarked 4 = .ok (.sipush 423, 3) := by decide +kernel
theorem dX6_isMarked_7 : decode cX6_isMarked 7 = .ok (.iaload, 1) := by decide +kernel
theorem dX6_isMarked_8 : decode cX6_isMarked 8 = .ok (.aload_n 0, 1) := by decide +kernel
theorem dX6_isMarked_9 : decode cX6_isMarked 9 = .ok (.iload_n 1, 1) := by decide +kernel
theorem dX6_isMarked_10 : decode cX6_isMarked 10 = .ok (.iconst 0, 1) := by decide +kernel
theorem dX6_isMarked_11 : decode cX6_isMarked 11 = .ok (.invokevirtual 141, 3) := by decide +kernel
theorem dX6_isMarked_14 : decode cX6_isMarked 14 = .ok (.if_icmp .ne 24, 3) := by decide +kernel
theorem dX6_isMarked_17 : decode cX6_isMarked 17 = .ok (.aload_n 0, 1) := by decide +kernel
theorem dX6_isMarked_18 : decode cX6_isMarked 18 = .ok (.getfield 7, 3) := by decide +kernel
theorem dX6_isMarked_21 : decode cX6_isMarked 21 = .ok (.sipush 424, 3) := by decide +kernel
theorem dX6_isMarked_24 : decode cX6_isMarked 24 = .ok (.iaload, 1) := by decide +kernel
theorem dX6_isMarked_25 : decode cX6_isMarked 25 = .ok (.aload_n 0, 1) := by decide +kernel
theorem dX6_isMarked_26 : decode cX6_isMarked 26 = .ok (.iload_n 1, 1) := by decide +kernel
theorem dX6_isMarked_27 : decode cX6_isMarked 27 = .ok (.iconst 1, 1) := by decide +kernel
theorem dX6_isMarked_28 : decode cX6_isMarked 28 = .ok (.invokevirtual 141, 3) := by decide +kernel
theorem dX6_isMarked_31 : decode cX6_isMarked 31 = .ok (.if_icmp .ne 7, 3) := by decide +kernel
theorem dX6_isMarked_34 : decode cX6_isMarked 34 = .ok (.iconst 1, 1) := by decide +kernel
theorem dX6_isMarked_35 : decode cX6_isMarked 35 = .ok (.goto 4, 3) := by decide +kernel
theorem dX6_isMarked_38 : decode cX6_isMarked 38 = .ok (.iconst 0, 1) := by decide +kernel
theorem dX6_isMarked_39 : decode cX6_isMarked 39 = .ok (.ireturn, 1) := by decide +kernel
theorem dX6_mark_0 : decode cX6_mark 0 = .ok (.iload_n 1, 1) := by decide +kernel
theorem dX6_mark_1 : decode cX6_mark 1 = .ok (.invokestatic 135, 3) := by decide +kernel
theorem dX6_mark_4 : decode cX6_mark 4 = .ok (.ifCond .ne 5, 3) := by decide +kernel
theorem dX6_mark_7 : decode cX6_mark 7 = .ok (.iconst (-1), 1) := by decide +kernel
theorem dX6_mark_8 : decode cX6_mark 8 = .ok (.ireturn, 1) := by decide +kernel
theorem dX6_mark_9 : decode cX6_mark 9 = .ok (.aload_n 0, 1) := by decide +kernel
theorem dX6_mark_10 : decode cX6_mark 10 = .ok (.iload_n 1, 1) := by decide +kernel
theorem dX6_mark_11 : decode cX6_mark 11 = .ok (.iconst 0, 1) := by decide +kernel
theorem dX6_mark_12 : decode cX6_mark 12 = .ok (.invokevirtual 141, 3) := by decide +kernel
theorem dX6_mark_15 : decode cX6_mark 15 = .ok (.bipush (-5), 2) := by decide +kernel
theorem dX6_mark_17 : decode cX6_mark 17 = .ok (.if_icmp .eq 11, 3) := by decide +kernel
theorem dX6_mark_20 : decode cX6_mark 20 = .ok (.aload_n 0, 1) := by decide +kernel
theorem dX6_mark_21 : decode cX6_mark 21 = .ok (.iload_n 1, 1) := by decide +kernel
theorem dX6_mark_22 : decode cX6_mark 22 = .ok (.invokevirtual 150, 3) := by decide +kernel
theorem dX6_mark_25 : decode cX6_mark 25 = .ok (.ifCond .eq 22, 3) := by decide +kernel
theorem dX6_mark_28 : decode cX6_mark 28 = .ok (.aload_n 0, 1) := by decide +kernel
theorem dX6_mark_29 : decode cX6_mark 29 = .ok (.iload_n 1, 1) := by decide +kernel
theorem dX6_mark_30 : decode cX6_mark 30 = .ok (.iconst 0, 1) := by decide +kernel
theorem dX6_mark_31 : decode cX6_mark 31 = .ok (.invokevirtual 141, 3) := by decide +kernel
theorem dX6_mark_34 : decode cX6_mark 34 = .ok (.bipush (-5), 2) := by decide +kernel
theorem dX6_mark_36 : decode cX6_mark 36 = .ok (.if_icmp .ne 8, 3) := by decide +kernel
theorem dX6_mark_39 : decode cX6_mark 39 = .ok (.bipush (-4), 2) := by decide +kernel
theorem dX6_mark_41 : decode cX6_mark 41 = .ok (.goto 5, 3) := by decide +kernel
theorem dX6_mark_44 : decode cX6_mark 44 = .ok (.bipush (-5), 2) := by decide +kernel
theorem dX6_mark_46 : decode cX6_mark 46 = .ok (.ireturn, 1) := by decide +kernel
theorem dX6_mark_47 : decode cX6_mark 47 = .ok (.aload_n 0, 1) := by decide +kernel
theorem dX6_mark_48 : decode cX6_mark 48 = .ok (.invokevirtual 114, 3) := by decide +kernel
theorem dX6_mark_51 : decode cX6_mark 51 = .ok (.aload_n 0, 1) := by decide +kernel
theorem dX6_mark_52 : decode cX6_mark 52 = .ok (.getfield 7, 3) := by decide +kernel
theorem dX6_mark_55 : decode cX6_mark 55 = .ok (.sipush 423, 3) := by decide +kernel
theorem dX6_mark_58 : decode cX6_mark 58 = .ok (.aload_n 0, 1) := by decide +kernel
theorem dX6_mark_59 : decode cX6_mark 59 = .ok (.iload_n 1, 1) := by decide +kernel
theorem dX6_mark_60 : decode cX6_mark 60 = .ok (.iconst 0, 1) := by decide +kernel
theorem dX6_mark_61 : decode cX6_mark 61 = .ok (.invokevirtual 141, 3) := by decide +kernel
theorem dX6_mark_64 : decode cX6_mark 64 = .ok (.iastore, 1) := by decide +kernel
theorem dX6_mark_65 : decode cX6_mark 65 = .ok (.aload_n 0, 1) := by decide +kernel
theorem dX6_mark_66 : decode cX6_mark 66 = .ok (.getfield 7, 3) := by decide +kernel
theorem dX6_mark_69 : decode cX6_mark 69 = .ok (.sipush 424, 3) := by decide +kernel
theorem dX6_mark_72 : decode cX6_mark 72 = .ok (.aload_n 0, 1) := by decide +kernel
theorem dX6_mark_73 : decode cX6_mark 73 = .ok (.iload_n 1, 1) := by decide +kernel
theorem dX6_mark_74 : decode cX6_mark 74 = .ok (.iconst 1, 1) := by decide +kernel
theorem dX6_mark_75 : decode cX6_mark 75 = .ok (.invokevirtual 141, 3) := by decide +kernel
theorem dX6_mark_78 : decode cX6_mark 78 = .ok (.iastore, 1) := by decide +kernel
theorem dX6_mark_79 : decode cX6_mark 79 = .ok (.aload_n 0, 1) := by decide +kernel
theorem dX6_mark_80 : decode cX6_mark 80 = .ok (.getfield 7, 3) := by decide +kernel
theorem dX6_mark_83 : decode cX6_mark 83 = .ok (.sipush 423, 3) := by decide +kernel
theorem dX6_mark_86 : decode cX6_mark 86 = .ok (.iaload, 1) := by decide +kernel
theorem dX6_mark_87 : decode cX6_mark 87 = .ok (.ireturn, 1) := by decide +kernel
theorem dX6_goToMark_0 : decode cX6_goToMark 0 = .ok (.iload_n 1, 1) := by decide +kernel
theorem dX6_goToMark_1 : decode cX6_goToMark 1 = .ok (.invokestatic 135, 3) := by decide +kernel
theorem dX6_goToMark_4 : decode cX6_goToMark 4 = .ok (.ifCond .ne 5, 3) := by decide +kernel
theorem dX6_goToMark_7 : decode cX6_goToMark 7 = .ok (.iconst (-1), 1) := by decide +kernel
theorem dX6_goToMark_8 : decode cX6_goToMark 8 = .ok (.ireturn, 1) := by decide +kernel
theorem dX6_goToMark_9 : decode cX6_goToMark 9 = .ok (.aload_n 0, 1) := by decide +kernel
theorem dX6_goToMark_10 : decode cX6_goToMark 10 = .ok (.getfield 7, 3) := by decide +kernel
theorem dX6_goToMark_13 : decode cX6_goToMark 13 = .ok (.sipush 423, 3) := by decide +kernel
theorem dX6_goToMark_16 : decode cX6_goToMark 16 = .ok (.iaload, 1) := by decide +kernel
theorem dX6_goToMark_17 : decode cX6_goToMark 17 = .ok (.bipush (-5), 2) := by decide +kernel
theorem dX6_goToMark_19 : decode cX6_goToMark 19 = .ok (.if_icmp .eq 11, 3) := by decide +kernel
theorem dX6_goToMark_22 : decode cX6_goToMark 22 = .ok (.aload_n 0, 1) := by decide +kernel
theorem dX6_goToMark_23 : decode cX6_goToMark 23 = .ok (.iload_n 1, 1) := by decide +kernel
theorem dX6_goToMark_24 : decode cX6_goToMark 24 = .ok (.invokevirtual 150, 3) := by decide +kernel
theorem dX6_goToMark_27 : decode cX6_goToMark 27 = .ok (.ifCond .eq 24, 3) := by decide +kernel
theorem dX6_goToMark_30 : decode cX6_goToMark 30 = .ok (.aload_n 0, 1) := by decide +kernel
theorem dX6_goToMark_31 : decode cX6_goToMark 31 = .ok (.getfield 7, 3) := by decide +kernel
theorem dX6_goToMark_34 : decode cX6_goToMark 34 = .ok (.sipush 423, 3) := by decide +kernel
theorem dX6_goToMark_37 : decode cX6_goToMark 37 = .ok (.iaload, 1) := by decide +kernel
theorem dX6_goToMark_38 : decode cX6_goToMark 38 = .ok (.bipush (-5), 2) := by decide +kernel
theorem dX6_goToMark_40 : decode cX6_goToMark 40 = .ok (.if_icmp .ne 8, 3) := by decide +kernel
theorem dX6_goToMark_43 : decode cX6_goToMark 43 = .ok (.bipush (-4), 2) := by decide +kernel
theorem dX6_goToMark_45 : decode cX6_goToMark 45 = .ok (.goto 5, 3) := by decide +kernel
theorem dX6_goToMark_48 : decode cX6_goToMark 48 = .ok (.bipush (-5), 2) := by decide +kernel
theorem dX6_goToMark_50 : decode cX6_goToMark 50 = .ok (.ireturn, 1) := by decide +kernel
theorem dX6_goToMark_51 : decode cX6_goToMark 51 = .ok (.aload_n 0, 1) := by decide +kernel
theorem dX6_goToMark_52 : decode cX6_goToMark 52 = .ok (.invokevirtual 114, 3) := by decide +kernel
theorem dX6_goToMark_55 : decode cX6_goToMark 55 = .ok (.aload_n 0, 1) := by decide +kernel
theorem dX6_goToMark_56 : decode cX6_goToMark 56 = .ok (.iload_n 1, 1) := by decide +kernel
theorem dX6_goToMark_57 : decode cX6_goToMark 57 = .ok (.aload_n 0, 1) := by decide +kernel
theorem dX6_goToMark_58 : decode cX6_goToMark 58 = .ok (.getfield 7, 3) := by decide +kernel
theorem dX6_goToMark_61 : decode cX6_goToMark 61 = .ok (.sipush 423, 3) := by decide +kernel
theorem dX6_goToMark_64 : decode cX6_goToMark 64 = .ok (.iaload, 1) := by decide +kernel
theorem dX6_goToMark_65 : decode cX6_goToMark 65 = .ok (.aload_n 0, 1) := by decide +kernel
theorem dX6_goToMark_66 : decode cX6_goToMark 66 = .ok (.getfield 7, 3) := by decide +kernel
theorem dX6_goToMark_69 : decode cX6_goToMark 69 = .ok (.sipush 424, 3) := by decide +kernel
theorem dX6_goToMark_72 : decode cX6_goToMark 72 = .ok (.iaload, 1) := by decide +kernel
theorem dX6_goToMark_73 : decode cX6_goToMark 73 = .ok (.iconst 0, 1) := by decide +kernel
theorem dX6_goToMark_74 : decode cX6_goToMark 74 = .ok (.invokevirtual 138, 3) := by decide +kernel
theorem dX6_goToMark_77 : decode cX6_goToMark 77 = .ok (.aload_n 0, 1) := by decide +kernel
theorem dX6_goToMark_78 : decode cX6_goToMark 78 = .ok (.getfield 7, 3) := by decide +kernel
theorem dX6_goToMark_81 : decode cX6_goToMark 81 = .ok (.sipush 423, 3) := by decide +kernel
theorem dX6_goToMark_84 : decode cX6_goToMark 84 = .ok (.iaload, 1) := by decide +kernel
theorem dX6_goToMark_85 : decode cX6_goToMark 85 = .ok (.ireturn, 1) := by decide +kernel
theorem dX6_choicesNow_0 : decode cX6_choicesNow 0 = .ok (.iconst 0, 1) := by decide +kernel
theorem dX6_choicesNow_1 : decode cX6_choicesNow 1 = .ok (.istore_n 2, 1) := by decide +kernel
theorem dX6_choicesNow_2 : decode cX6_choicesNow 2 = .ok (.iconst 0, 1) := by decide +kernel
theorem dX6_choicesNow_3 : decode cX6_choicesNow 3 = .ok (.istore_n 3, 1) := by decide +kernel
theorem dX6_choicesNow_4 : decode cX6_choicesNow 4 = .ok (.iload_n 3, 1) := by decide +kernel
theorem dX6_choicesNow_5 : decode cX6_choicesNow 5 = .ok (.iconst 3, 1) := by decide +kernel
theorem dX6_choicesNow_6 : decode cX6_choicesNow 6 = .ok (.if_icmp .ge 28, 3) := by decide +kernel
theorem dX6_choicesNow_9 : decode cX6_choicesNow 9 = .ok (.iload_n 2, 1) := by decide +kernel
theorem dX6_choicesNow_10 : decode cX6_choicesNow 10 = .ok (.aload_n 0, 1) := by decide +kernel
theorem dX6_choicesNow_11 : decode cX6_choicesNow 11 = .ok (.iload_n 1, 1) := by decide +kernel
theorem dX6_choicesNow_12 : decode cX6_choicesNow 12 = .ok (.iload_n 3, 1) := by decide +kernel
theorem dX6_choicesNow_13 : decode cX6_choicesNow 13 = .ok (.invokevirtual 144, 3) := by decide +kernel
theorem dX6_choicesNow_16 : decode cX6_choicesNow 16 = .ok (.ifCond .ne 9, 3) := by decide +kernel
theorem dX6_choicesNow_19 : decode cX6_choicesNow 19 = .ok (.iconst 1, 1) := by decide +kernel
theorem dX6_choicesNow_20 : decode cX6_choicesNow 20 = .ok (.iload_n 3, 1) := by decide +kernel
theorem dX6_choicesNow_21 : decode cX6_choicesNow 21 = .ok (.ishl, 1) := by decide +kernel
theorem dX6_choicesNow_22 : decode cX6_choicesNow 22 = .ok (.goto 4, 3) := by decide +kernel
theorem dX6_choicesNow_25 : decode cX6_choicesNow 25 = .ok (.iconst 0, 1) := by decide +kernel
theorem dX6_choicesNow_26 : decode cX6_choicesNow 26 = .ok (.ior, 1) := by decide +kernel
theorem dX6_choicesNow_27 : decode cX6_choicesNow 27 = .ok (.istore_n 2, 1) := by decide +kernel
theorem dX6_choicesNow_28 : decode cX6_choicesNow 28 = .ok (.iinc 3 1, 3) := by decide +kernel
theorem dX6_choicesNow_31 : decode cX6_choicesNow 31 = .ok (.goto (-27), 3) := by decide +kernel
theorem dX6_choicesNow_34 : decode cX6_choicesNow 34 = .ok (.iload_n 2, 1) := by decide +kernel
theorem dX6_choicesNow_35 : decode cX6_choicesNow 35 = .ok (.ireturn, 1) := by decide +kernel
theorem dX6_reader_0 : decode cX6_reader 0 = .ok (.iload_n 1, 1) := by decide +kernel
theorem dX6_reader_1 : decode cX6_reader 1 = .ok (.invokestatic 135, 3) := by decide +kernel
theorem dX6_reader_4 : decode cX6_reader 4 = .ok (.ifCond .ne 5, 3) := by decide +kernel
theorem dX6_reader_7 : decode cX6_reader 7 = .ok (.iconst (-1), 1) := by decide +kernel
theorem dX6_reader_8 : decode cX6_reader 8 = .ok (.ireturn, 1) := by decide +kernel
theorem dX6_reader_9 : decode cX6_reader 9 = .ok (.iload_n 2, 1) := by decide +kernel
theorem dX6_reader_10 : decode cX6_reader 10 = .ok (.iconst 0, 1) := by decide +kernel
theorem dX6_reader_11 : decode cX6_reader 11 = .ok (.iconst 3, 1) := by decide +kernel
theorem dX6_reader_12 : decode cX6_reader 12 = .ok (.invokestatic 50, 3) := by decide +kernel
theorem dX6_reader_15 : decode cX6_reader 15 = .ok (.ifCond .ne 6, 3) := by decide +kernel
theorem dX6_reader_18 : decode cX6_reader 18 = .ok (.bipush (-2), 2) := by decide +kernel
theorem dX6_reader_20 : decode cX6_reader 20 = .ok (.ireturn, 1) := by decide +kernel
theorem dX6_reader_21 : decode cX6_reader 21 = .ok (.aload_n 0, 1) := by decide +kernel
theorem dX6_reader_22 : decode cX6_reader 22 = .ok (.iload_n 1, 1) := by decide +kernel
theorem dX6_reader_23 : decode cX6_reader 23 = .ok (.iconst 0, 1) := by decide +kernel
theorem dX6_reader_24 : decode cX6_reader 24 = .ok (.invokevirtual 141, 3) := by decide +kernel
theorem dX6_reader_27 : decode cX6_reader 27 = .ok (.bipush (-5), 2) := by decide +kernel
theorem dX6_reader_29 : decode cX6_reader 29 = .ok (.if_icmp .ne 6, 3) := by decide +kernel
theorem dX6_reader_32 : decode cX6_reader 32 = .ok (.bipush (-5), 2) := by decide +kernel
theorem dX6_reader_34 : decode cX6_reader 34 = .ok (.ireturn, 1) := by decide +kernel
theorem dX6_reader_35 : decode cX6_reader 35 = .ok (.iload_n 2, 1) := by decide +kernel
theorem dX6_reader_36 : decode cX6_reader 36 = .ok (.iconst 2, 1) := by decide +kernel
theorem dX6_reader_37 : decode cX6_reader 37 = .ok (.if_icmp .ne 11, 3) := by decide +kernel
theorem dX6_reader_40 : decode cX6_reader 40 = .ok (.aload_n 0, 1) := by decide +kernel
theorem dX6_reader_41 : decode cX6_reader 41 = .ok (.iload_n 1, 1) := by decide +kernel
theorem dX6_reader_42 : decode cX6_reader 42 = .ok (.invokevirtual 153, 3) := by decide +kernel
theorem dX6_reader_45 : decode cX6_reader 45 = .ok (.goto 18, 3) := by decide +kernel
theorem dX6_reader_48 : decode cX6_reader 48 = .ok (.aload_n 0, 1) := by decide +kernel
theorem dX6_reader_49 : decode cX6_reader 49 = .ok (.iload_n 1, 1) := by decide +kernel
theorem dX6_reader_50 : decode cX6_reader 50 = .ok (.iload_n 2, 1) := by decide +kernel
theorem dX6_reader_51 : decode cX6_reader 51 = .ok (.iconst 3, 1) := by decide +kernel
theorem dX6_reader_52 : decode cX6_reader 52 = .ok (.if_icmp .ne 7, 3) := by decide +kernel
theorem dX6_reader_55 : decode cX6_reader 55 = .ok (.iconst 2, 1) := by decide +kernel
theorem dX6_reader_56 : decode cX6_reader 56 = .ok (.goto 4, 3) := by decide +kernel
theorem dX6_reader_59 : decode cX6_reader 59 = .ok (.iload_n 2, 1) := by decide +kernel
theorem dX6_reader_60 : decode cX6_reader 60 = .ok (.invokevirtual 141, 3) := by decide +kernel
theorem dX6_reader_63 : decode cX6_reader 63 = .ok (.ireturn, 1) := by decide +kernel
theorem dX6_page_0 : decode cX6_page 0 = .ok (.aload_n 0, 1) := by decide +kernel
theorem dX6_page_1 : decode cX6_page 1 = .ok (.iload_n 1, 1) := by decide +kernel
theorem dX6_page_2 : decode cX6_page 2 = .ok (.invokevirtual 54, 3) := by decide +kernel
theorem dX6_page_5 : decode cX6_page 5 = .ok (.ifCond .ne 5, 3) := by decide +kernel
theorem dX6_page_8 : decode cX6_page 8 = .ok (.iconst (-1), 1) := by decide +kernel
theorem dX6_page_9 : decode cX6_page 9 = .ok (.ireturn, 1) := by decide +kernel
theorem dX6_page_10 : decode cX6_page 10 = .ok (.iload_n 2, 1) := by decide +kernel
theorem dX6_page_11 : decode cX6_page 11 = .ok (.tableswitch 187 0 10 #[57, 64, 71, 78, 87, 113, 127, 145, 169, 175, 181], 57) := by decide +kernel
theorem dX6_page_68 : decode cX6_page 68 = .ok (.aload_n 0, 1) := by decide +kernel
theorem dX6_page_69 : decode cX6_page 69 = .ok (.iload_n 1, 1) := by decide +kernel
theorem dX6_page_70 : decode cX6_page 70 = .ok (.iconst 3, 1) := by decide +kernel
theorem dX6_page_71 : decode cX6_page 71 = .ok (.invokevirtual 62, 3) := by decide +kernel
theorem dX6_page_74 : decode cX6_page 74 = .ok (.ireturn, 1) := by decide +kernel
theorem dX6_page_75 : decode cX6_page 75 = .ok (.aload_n 0, 1) := by decide +kernel
theorem dX6_page_76 : decode cX6_page 76 = .ok (.iload_n 1, 1) := by decide +kernel
theorem dX6_page_77 : decode cX6_page 77 = .ok (.iconst 1, 1) := by decide +kernel
theorem dX6_page_78 : decode cX6_page 78 = .ok (.invokevirtual 62, 3) := by decide +kernel
theorem dX6_page_81 : decode cX6_page 81 = .ok (.ireturn, 1) := by decide +kernel
theorem dX6_page_82 : decode cX6_page 82 = .ok (.aload_n 0, 1) := by decide +kernel
theorem dX6_page_83 : decode cX6_page 83 = .ok (.iload_n 1, 1) := by decide +kernel
theorem dX6_page_84 : decode cX6_page 84 = .ok (.iconst 2, 1) := by decide +kernel
theorem dX6_page_85 : decode cX6_page 85 = .ok (.invokevirtual 62, 3) := by decide +kernel
theorem dX6_page_88 : decode cX6_page 88 = .ok (.ireturn, 1) := by decide +kernel
theorem dX6_page_89 : decode cX6_page 89 = .ok (.aload_n 0, 1) := by decide +kernel
theorem dX6_page_90 : decode cX6_page 90 = .ok (.iload_n 1, 1) := by decide +kernel
theorem dX6_page_91 : decode cX6_page 91 = .ok (.invokevirtual 156, 3) := by decide +kernel
theorem dX6_page_94 : decode cX6_page 94 = .ok (.invokestatic 160, 3) := by decide +kernel
theorem dX6_page_97 : decode cX6_page 97 = .ok (.ireturn, 1) := by decide +kernel
theorem dX6_page_98 : decode cX6_page 98 = .ok (.aload_n 0, 1) := by decide +kernel
theorem dX6_page_99 : decode cX6_page 99 = .ok (.iload_n 1, 1) := by decide +kernel
theorem dX6_page_100 : decode cX6_page 100 = .ok (.invokevirtual 66, 3) := by decide +kernel
theorem dX6_page_103 : decode cX6_page 103 = .ok (.ifCond .ne 7, 3) := by decide +kernel
theorem dX6_page_106 : decode cX6_page 106 = .ok (.iconst 0, 1) := by decide +kernel
theorem dX6_page_107 : decode cX6_page 107 = .ok (.goto 16, 3) := by decide +kernel
theorem dX6_page_110 : decode cX6_page 110 = .ok (.aload_n 0, 1) := by decide +kernel
theorem dX6_page_111 : decode cX6_page 111 = .ok (.iload_n 1, 1) := by decide +kernel
theorem dX6_page_112 : decode cX6_page 112 = .ok (.invokevirtual 166, 3) := by decide +kernel
theorem dX6_page_115 : decode cX6_page 115 = .ok (.ifCond .eq 7, 3) := by decide +kernel
theorem dX6_page_118 : decode cX6_page 118 = .ok (.iconst 1, 1) := by decide +kernel
theorem dX6_page_119 : decode cX6_page 119 = .ok (.goto 4, 3) := by decide +kernel
theorem dX6_page_122 : decode cX6_page 122 = .ok (.iconst 2, 1) := by decide +kernel
theorem dX6_page_123 : decode cX6_page 123 = .ok (.ireturn, 1) := by decide +kernel
theorem dX6_page_124 : decode cX6_page 124 = .ok (.aload_n 0, 1) := by decide +kernel
theorem dX6_page_125 : decode cX6_page 125 = .ok (.iload_n 1, 1) := by decide +kernel
theorem dX6_page_126 : decode cX6_page 126 = .ok (.invokevirtual 169, 3) := by decide +kernel
theorem dX6_page_129 : decode cX6_page 129 = .ok (.ifCond .ne 7, 3) := by decide +kernel
theorem dX6_page_132 : decode cX6_page 132 = .ok (.iconst 1, 1) := by decide +kernel
theorem dX6_page_133 : decode cX6_page 133 = .ok (.goto 4, 3) := by decide +kernel
theorem dX6_page_136 : decode cX6_page 136 = .ok (.iconst 0, 1) := by decide +kernel
theorem dX6_page_137 : decode cX6_page 137 = .ok (.ireturn, 1) := by decide +kernel
theorem dX6_page_138 : decode cX6_page 138 = .ok (.aload_n 0, 1) := by decide +kernel
theorem dX6_page_139 : decode cX6_page 139 = .ok (.invokevirtual 99, 3) := by decide +kernel
theorem dX6_page_142 : decode cX6_page 142 = .ok (.aload_n 0, 1) := by decide +kernel
theorem dX6_page_143 : decode cX6_page 143 = .ok (.iload_n 1, 1) := by decide +kernel
theorem dX6_page_144 : decode cX6_page 144 = .ok (.invokevirtual 172, 3) := by decide +kernel
theorem dX6_page_147 : decode cX6_page 147 = .ok (.ifCond .eq 7, 3) := by decide +kernel
theorem dX6_page_150 : decode cX6_page 150 = .ok (.iconst 1, 1) := by decide +kernel
theorem dX6_page_151 : decode cX6_page 151 = .ok (.goto 4, 3) := by decide +kernel
theorem dX6_page_154 : decode cX6_page 154 = .ok (.iconst 0, 1) := by decide +kernel
theorem dX6_page_155 : decode cX6_page 155 = .ok (.ireturn, 1) := by decide +kernel
theorem dX6_page_156 : decode cX6_page 156 = .ok (.aload_n 0, 1) := by decide +kernel
theorem dX6_page_157 : decode cX6_page 157 = .ok (.bipush 32, 2) := by decide +kernel
theorem dX6_page_159 : decode cX6_page 159 = .ok (.iload_n 1, 1) := by decide +kernel
theorem dX6_page_160 : decode cX6_page 160 = .ok (.imul, 1) := by decide +kernel
theorem dX6_page_161 : decode cX6_page 161 = .ok (.bipush 32, 2) := by decide +kernel
theorem dX6_page_163 : decode cX6_page 163 = .ok (.iload_n 1, 1) := by decide +kernel
theorem dX6_page_164 : decode cX6_page 164 = .ok (.imul, 1) := by decide +kernel
theorem dX6_page_165 : decode cX6_page 165 = .ok (.bipush 31, 2) := by decide +kernel
theorem dX6_page_167 : decode cX6_page 167 = .ok (.iadd, 1) := by decide +kernel
theorem dX6_page_168 : decode cX6_page 168 = .ok (.invokevirtual 175, 3) := by decide +kernel
theorem dX6_page_171 : decode cX6_page 171 = .ok (.ifCond .le 7, 3) := by decide +kernel
theorem dX6_page_174 : decode cX6_page 174 = .ok (.iconst 1, 1) := by decide +kernel
theorem dX6_page_175 : decode cX6_page 175 = .ok (.goto 4, 3) := by decide +kernel
theorem dX6_page_178 : decode cX6_page 178 = .ok (.iconst 0, 1) := by decide +kernel
theorem dX6_page_179 : decode cX6_page 179 = .ok (.ireturn, 1) := by decide +kernel
theorem dX6_page_180 : decode cX6_page 180 = .ok (.aload_n 0, 1) := by decide +kernel
theorem dX6_page_181 : decode cX6_page 181 = .ok (.iload_n 1, 1) := by decide +kernel
theorem dX6_page_182 : decode cX6_page 182 = .ok (.invokevirtual 169, 3) := by decide +kernel
theorem dX6_page_185 : decode cX6_page 185 = .ok (.ireturn, 1) := by decide +kernel
theorem dX6_page_186 : decode cX6_page 186 = .ok (.aload_n 0, 1) := by decide +kernel
theorem dX6_page_187 : decode cX6_page 187 = .ok (.iload_n 1, 1) := by decide +kernel
theorem dX6_page_188 : decode cX6_page 188 = .ok (.invokevirtual 178, 3) := by decide +kernel
theorem dX6_page_191 : decode cX6_page 191 = .ok (.ireturn, 1) := by decide +kernel
theorem dX6_page_192 : decode cX6_page 192 = .ok (.aload_n 0, 1) := by decide +kernel
theorem dX6_page_193 : decode cX6_page 193 = .ok (.iload_n 1, 1) := by decide +kernel
theorem dX6_page_194 : decode cX6_page 194 = .ok (.invokevirtual 128, 3) := by decide +kernel
theorem dX6_page_197 : decode cX6_page 197 = .ok (.ireturn, 1) := by decide +kernel
theorem dX6_page_198 : decode cX6_page 198 = .ok (.bipush (-2), 2) := by decide +kernel
theorem dX6_page_200 : decode cX6_page 200 = .ok (.ireturn, 1) := by decide +kernel
theorem dX6_canBeTaken_0 : decode cX6_canBeTaken 0 = .ok (.aload_n 0, 1) := by decide +kernel
theorem dX6_canBeTaken_1 : decode cX6_canBeTaken 1 = .ok (.invokevirtual 96, 3) := by decide +kernel
theorem dX6_canBeTaken_4 : decode cX6_canBeTaken 4 = .ok (.iconst 0, 1) := by decide +kernel
theorem dX6_canBeTaken_5 : decode cX6_canBeTaken 5 = .ok (.istore_n 3, 1) := by decide +kernel
theorem dX6_canBeTaken_6 : decode cX6_canBeTaken 6 = .ok (.iconst 0, 1) := by decide +kernel
theorem dX6_canBeTaken_7 : decode cX6_canBeTaken 7 = .ok (.istore 4, 2) := by decide +kernel
theorem dX6_canBeTaken_9 : decode cX6_canBeTaken 9 = .ok (.iload 4, 2) := by decide +kernel
theorem dX6_canBeTaken_11 : decode cX6_canBeTaken 11 = .ok (.bipush 31, 2) := by decide +kernel
theorem dX6_canBeTaken_13 : decode cX6_canBeTaken 13 = .ok (.if_icmp .gt 44, 3) := by decide +kernel
theorem dX6_canBeTaken_16 : decode cX6_canBeTaken 16 = .ok (.aload_n 0, 1) := by decide +kernel
theorem dX6_canBeTaken_17 : decode cX6_canBeTaken 17 = .ok (.getfield 22, 3) := by decide +kernel
theorem dX6_canBeTaken_20 : decode cX6_canBeTaken 20 = .ok (.bipush 32, 2) := by decide +kernel
theorem dX6_canBeTaken_22 : decode cX6_canBeTaken 22 = .ok (.iload_n 1, 1) := by decide +kernel
theorem dX6_canBeTaken_23 : decode cX6_canBeTaken 23 = .ok (.imul, 1) := by decide +kernel
theorem dX6_canBeTaken_24 : decode cX6_canBeTaken 24 = .ok (.iload 4, 2) := by decide +kernel
theorem dX6_canBeTaken_26 : decode cX6_canBeTaken 26 = .ok (.iadd, 1) := by decide +kernel
theorem dX6_canBeTaken_27 : decode cX6_canBeTaken 27 = .ok (.iaload, 1) := by decide +kernel
theorem dX6_canBeTaken_28 : decode cX6_canBeTaken 28 = .ok (.sipush 9999, 3) := by decide +kernel
theorem dX6_canBeTaken_31 : decode cX6_canBeTaken 31 = .ok (.if_icmp .ge 18, 3) := by decide +kernel
theorem dX6_canBeTaken_34 : decode cX6_canBeTaken 34 = .ok (.aload_n 0, 1) := by decide +kernel
theorem dX6_canBeTaken_35 : decode cX6_canBeTaken 35 = .ok (.iload_n 1, 1) := by decide +kernel
theorem dX6_canBeTaken_36 : decode cX6_canBeTaken 36 = .ok (.iload_n 2, 1) := by decide +kernel
theorem dX6_canBeTaken_37 : decode cX6_canBeTaken 37 = .ok (.iload 4, 2) := by decide +kernel
theorem dX6_canBeTaken_39 : decode cX6_canBeTaken 39 = .ok (.invokevirtual 70, 3) := by decide +kernel
theorem dX6_canBeTaken_42 : decode cX6_canBeTaken 42 = .ok (.ifCond .eq 7, 3) := by decide +kernel
theorem dX6_canBeTaken_45 : decode cX6_canBeTaken 45 = .ok (.iconst 1, 1) := by decide +kernel
theorem dX6_canBeTaken_46 : decode cX6_canBeTaken 46 = .ok (.goto 4, 3) := by decide +kernel
theorem dX6_canBeTaken_49 : decode cX6_canBeTaken 49 = .ok (.iload_n 3, 1) := by decide +kernel
theorem dX6_canBeTaken_50 : decode cX6_canBeTaken 50 = .ok (.istore_n 3, 1) := by decide +kernel
theorem dX6_canBeTaken_51 : decode cX6_canBeTaken 51 = .ok (.iinc 4 1, 3) := by decide +kernel
theorem dX6_canBeTaken_54 : decode cX6_canBeTaken 54 = .ok (.goto (-45), 3) := by decide +kernel
theorem dX6_canBeTaken_57 : decode cX6_canBeTaken 57 = .ok (.iload_n 3, 1) := by decide +kernel
theorem dX6_canBeTaken_58 : decode cX6_canBeTaken 58 = .ok (.ireturn, 1) := by decide +kernel
theorem dX6_choice_0 : decode cX6_choice 0 = .ok (.aload_n 0, 1) := by decide +kernel
theorem dX6_choice_1 : decode cX6_choice 1 = .ok (.iload_n 1, 1) := by decide +kernel
theorem dX6_choice_2 : decode cX6_choice 2 = .ok (.iload_n 2, 1) := by decide +kernel
theorem dX6_choice_3 : decode cX6_choice 3 = .ok (.invokevirtual 124, 3) := by decide +kernel
theorem dX6_choice_6 : decode cX6_choice 6 = .ok (.ifCond .ne 5, 3) := by decide +kernel
theorem dX6_choice_9 : decode cX6_choice 9 = .ok (.iconst (-1), 1) := by decide +kernel
theorem dX6_choice_10 : decode cX6_choice 10 = .ok (.ireturn, 1) := by decide +kernel
theorem dX6_choice_11 : decode cX6_choice 11 = .ok (.iload_n 3, 1) := by decide +kernel
theorem dX6_choice_12 : decode cX6_choice 12 = .ok (.tableswitch 47 0 3 #[32, 32, 32, 40], 32) := by decide +kernel
theorem dX6_choice_44 : decode cX6_choice 44 = .ok (.aload_n 0, 1) := by decide +kernel
theorem dX6_choice_45 : decode cX6_choice 45 = .ok (.iload_n 1, 1) := by decide +kernel
theorem dX6_choice_46 : decode cX6_choice 46 = .ok (.iload_n 2, 1) := by decide +kernel
theorem dX6_choice_47 : decode cX6_choice 47 = .ok (.iload_n 3, 1) := by decide +kernel
theorem dX6_choice_48 : decode cX6_choice 48 = .ok (.invokevirtual 58, 3) := by decide +kernel
theorem dX6_choice_51 : decode cX6_choice 51 = .ok (.ireturn, 1) := by decide +kernel
theorem dX6_choice_52 : decode cX6_choice 52 = .ok (.aload_n 0, 1) := by decide +kernel
theorem dX6_choice_53 : decode cX6_choice 53 = .ok (.iload_n 1, 1) := by decide +kernel
theorem dX6_choice_54 : decode cX6_choice 54 = .ok (.iload_n 2, 1) := by decide +kernel
theorem dX6_choice_55 : decode cX6_choice 55 = .ok (.invokevirtual 181, 3) := by decide +kernel
theorem dX6_choice_58 : decode cX6_choice 58 = .ok (.ireturn, 1) := by decide +kernel
theorem dX6_choice_59 : decode cX6_choice 59 = .ok (.bipush (-2), 2) := by decide +kernel
theorem dX6_choice_61 : decode cX6_choice 61 = .ok (.ireturn, 1) := by decide +kernel
theorem dX6_findsWay_0 : decode cX6_findsWay 0 = .ok (.aload_n 0, 1) := by decide +kernel
theorem dX6_findsWay_1 : decode cX6_findsWay 1 = .ok (.invokevirtual 96, 3) := by decide +kernel
theorem dX6_findsWay_4 : decode cX6_findsWay 4 = .ok (.bipush (-5), 2) := by decide +kernel
theorem dX6_findsWay_6 : decode cX6_findsWay 6 = .ok (.istore_n 1, 1) := by decide +kernel
theorem dX6_findsWay_7 : decode cX6_findsWay 7 = .ok (.aload_n 0, 1) := by decide +kernel
theorem dX6_findsWay_8 : decode cX6_findsWay 8 = .ok (.getfield 76, 3) := by decide +kernel
theorem dX6_findsWay_11 : decode cX6_findsWay 11 = .ok (.iconst 1, 1) := by decide +kernel
theorem dX6_findsWay_12 : decode cX6_findsWay 12 = .ok (.isub, 1) := by decide +kernel
theorem dX6_findsWay_13 : decode cX6_findsWay 13 = .ok (.istore_n 2, 1) := by decide +kernel
theorem dX6_findsWay_14 : decode cX6_findsWay 14 = .ok (.iload_n 2, 1) := by decide +kernel
theorem dX6_findsWay_15 : decode cX6_findsWay 15 = .ok (.ifCond .lt 36, 3) := by decide +kernel
theorem dX6_findsWay_18 : decode cX6_findsWay 18 = .ok (.aload_n 0, 1) := by decide +kernel
theorem dX6_findsWay_19 : decode cX6_findsWay 19 = .ok (.aload_n 0, 1) := by decide +kernel
theorem dX6_findsWay_20 : decode cX6_findsWay 20 = .ok (.getfield 31, 3) := by decide +kernel
theorem dX6_findsWay_23 : decode cX6_findsWay 23 = .ok (.iload_n 2, 1) := by decide +kernel
theorem dX6_findsWay_24 : decode cX6_findsWay 24 = .ok (.iaload, 1) := by decide +kernel
theorem dX6_findsWay_25 : decode cX6_findsWay 25 = .ok (.bipush 32, 2) := by decide +kernel
theorem dX6_findsWay_27 : decode cX6_findsWay 27 = .ok (.idiv, 1) := by decide +kernel
theorem dX6_findsWay_28 : decode cX6_findsWay 28 = .ok (.invokevirtual 166, 3) := by decide +kernel
theorem dX6_findsWay_31 : decode cX6_findsWay 31 = .ok (.ifCond .eq 12, 3) := by decide +kernel
theorem dX6_findsWay_34 : decode cX6_findsWay 34 = .ok (.aload_n 0, 1) := by decide +kernel
theorem dX6_findsWay_35 : decode cX6_findsWay 35 = .ok (.getfield 31, 3) := by decide +kernel
theorem dX6_findsWay_38 : decode cX6_findsWay 38 = .ok (.iload_n 2, 1) := by decide +kernel
theorem dX6_findsWay_39 : decode cX6_findsWay 39 = .ok (.iaload, 1) := by decide +kernel
theorem dX6_findsWay_40 : decode cX6_findsWay 40 = .ok (.goto 4, 3) := by decide +kernel
theorem dX6_findsWay_43 : decode cX6_findsWay 43 = .ok (.iload_n 1, 1) := by decide +kernel
theorem dX6_findsWay_44 : decode cX6_findsWay 44 = .ok (.istore_n 1, 1) := by decide +kernel
theorem dX6_findsWay_45 : decode cX6_findsWay 45 = .ok (.iinc 2 (-1), 3) := by decide +kernel
theorem dX6_findsWay_48 : decode cX6_findsWay 48 = .ok (.goto (-34), 3) := by decide +kernel
theorem dX6_findsWay_51 : decode cX6_findsWay 51 = .ok (.iload_n 1, 1) := by decide +kernel
theorem dX6_findsWay_52 : decode cX6_findsWay 52 = .ok (.bipush (-5), 2) := by decide +kernel
theorem dX6_findsWay_54 : decode cX6_findsWay 54 = .ok (.if_icmp .ne 5, 3) := by decide +kernel
theorem dX6_findsWay_57 : decode cX6_findsWay 57 = .ok (.iconst 0, 1) := by decide +kernel
theorem dX6_findsWay_58 : decode cX6_findsWay 58 = .ok (.ireturn, 1) := by decide +kernel
theorem dX6_findsWay_59 : decode cX6_findsWay 59 = .ok (.aload_n 0, 1) := by decide +kernel
theorem dX6_findsWay_60 : decode cX6_findsWay 60 = .ok (.aload_n 0, 1) := by decide +kernel
theorem dX6_findsWay_61 : decode cX6_findsWay 61 = .ok (.getfield 22, 3) := by decide +kernel
theorem dX6_findsWay_64 : decode cX6_findsWay 64 = .ok (.iload_n 1, 1) := by decide +kernel
theorem dX6_findsWay_65 : decode cX6_findsWay 65 = .ok (.iaload, 1) := by decide +kernel
theorem dX6_findsWay_66 : decode cX6_findsWay 66 = .ok (.putfield 184, 3) := by decide +kernel
theorem dX6_findsWay_69 : decode cX6_findsWay 69 = .ok (.aload_n 0, 1) := by decide +kernel
theorem dX6_findsWay_70 : decode cX6_findsWay 70 = .ok (.getfield 184, 3) := by decide +kernel
theorem dX6_findsWay_73 : decode cX6_findsWay 73 = .ok (.istore_n 2, 1) := by decide +kernel
theorem dX6_findsWay_74 : decode cX6_findsWay 74 = .ok (.iload_n 2, 1) := by decide +kernel
theorem dX6_findsWay_75 : decode cX6_findsWay 75 = .ok (.ifCond .lt 23, 3) := by decide +kernel
theorem dX6_findsWay_78 : decode cX6_findsWay 78 = .ok (.aload_n 0, 1) := by decide +kernel
theorem dX6_findsWay_79 : decode cX6_findsWay 79 = .ok (.getfield 40, 3) := by decide +kernel
theorem dX6_findsWay_82 : decode cX6_findsWay 82 = .ok (.iload_n 2, 1) := by decide +kernel
theorem dX6_findsWay_83 : decode cX6_findsWay 83 = .ok (.iload_n 1, 1) := by decide +kernel
theorem dX6_findsWay_84 : decode cX6_findsWay 84 = .ok (.iastore, 1) := by decide +kernel
theorem dX6_findsWay_85 : decode cX6_findsWay 85 = .ok (.aload_n 0, 1) := by decide +kernel
theorem dX6_findsWay_86 : decode cX6_findsWay 86 = .ok (.getfield 25, 3) := by decide +kernel
theorem dX6_findsWay_89 : decode cX6_findsWay 89 = .ok (.iload_n 1, 1) := by decide +kernel
theorem dX6_findsWay_90 : decode cX6_findsWay 90 = .ok (.iaload, 1) := by decide +kernel
theorem dX6_findsWay_91 : decode cX6_findsWay 91 = .ok (.istore_n 1, 1) := by decide +kernel
theorem dX6_findsWay_92 : decode cX6_findsWay 92 = .ok (.iinc 2 (-1), 3) := by decide +kernel
theorem dX6_findsWay_95 : decode cX6_findsWay 95 = .ok (.goto (-21), 3) := by decide +kernel
theorem dX6_findsWay_98 : decode cX6_findsWay 98 = .ok (.iconst 1, 1) := by decide +kernel
theorem dX6_findsWay_99 : decode cX6_findsWay 99 = .ok (.ireturn, 1) := by decide +kernel
theorem dX6_way_0 : decode cX6_way 0 = .ok (.iload_n 1, 1) := by decide +kernel
theorem dX6_way_1 : decode cX6_way 1 = .ok (.ifCond .lt 12, 3) := by decide +kernel
theorem dX6_way_4 : decode cX6_way 4 = .ok (.iload_n 2, 1) := by decide +kernel
theorem dX6_way_5 : decode cX6_way 5 = .ok (.iconst 0, 1) := by decide +kernel
theorem dX6_way_6 : decode cX6_way 6 = .ok (.iconst 2, 1) := by decide +kernel
theorem dX6_way_7 : decode cX6_way 7 = .ok (.invokestatic 50, 3) := by decide +kernel
theorem dX6_way_10 : decode cX6_way 10 = .ok (.ifCond .ne 6, 3) := by decide +kernel
theorem dX6_way_13 : decode cX6_way 13 = .ok (.bipush (-2), 2) := by decide +kernel
theorem dX6_way_15 : decode cX6_way 15 = .ok (.ireturn, 1) := by decide +kernel
theorem dX6_way_16 : decode cX6_way 16 = .ok (.aload_n 0, 1) := by decide +kernel
theorem dX6_way_17 : decode cX6_way 17 = .ok (.invokevirtual 187, 3) := by decide +kernel
theorem dX6_way_20 : decode cX6_way 20 = .ok (.ifCond .eq 11, 3) := by decide +kernel
theorem dX6_way_23 : decode cX6_way 23 = .ok (.iload_n 1, 1) := by decide +kernel
theorem dX6_way_24 : decode cX6_way 24 = .ok (.aload_n 0, 1) := by decide +kernel
theorem dX6_way_25 : decode cX6_way 25 = .ok (.getfield 184, 3) := by decide +kernel
theorem dX6_way_28 : decode cX6_way 28 = .ok (.if_icmp .le 6, 3) := by decide +kernel
theorem dX6_way_31 : decode cX6_way 31 = .ok (.bipush (-5), 2) := by decide +kernel
theorem dX6_way_33 : decode cX6_way 33 = .ok (.ireturn, 1) := by decide +kernel
theorem dX6_way_34 : decode cX6_way 34 = .ok (.iload_n 2, 1) := by decide +kernel
theorem dX6_way_35 : decode cX6_way 35 = .ok (.ifCond .ne 15, 3) := by decide +kernel
theorem dX6_way_38 : decode cX6_way 38 = .ok (.aload_n 0, 1) := by decide +kernel
theorem dX6_way_39 : decode cX6_way 39 = .ok (.getfield 40, 3) := by decide +kernel
theorem dX6_way_42 : decode cX6_way 42 = .ok (.iload_n 1, 1) := by decide +kernel
theorem dX6_way_43 : decode cX6_way 43 = .ok (.iaload, 1) := by decide +kernel
theorem dX6_way_44 : decode cX6_way 44 = .ok (.bipush 32, 2) := by decide +kernel
theorem dX6_way_46 : decode cX6_way 46 = .ok (.idiv, 1) := by decide +kernel
theorem dX6_way_47 : decode cX6_way 47 = .ok (.goto 46, 3) := by decide +kernel
theorem dX6_way_50 : decode cX6_way 50 = .ok (.iload_n 2, 1) := by decide +kernel
theorem dX6_way_51 : decode cX6_way 51 = .ok (.iconst 1, 1) := by decide +kernel
theorem dX6_way_52 : decode cX6_way 52 = .ok (.if_icmp .ne 15, 3) := by decide +kernel
theorem dX6_way_55 : decode cX6_way 55 = .ok (.aload_n 0, 1) := by decide +kernel
theorem dX6_way_56 : decode cX6_way 56 = .ok (.getfield 40, 3) := by decide +kernel
theorem dX6_way_59 : decode cX6_way 59 = .ok (.iload_n 1, 1) := by decide +kernel
theorem dX6_way_60 : decode cX6_way 60 = .ok (.iaload, 1) := by decide +kernel
theorem dX6_way_61 : decode cX6_way 61 = .ok (.bipush 32, 2) := by decide +kernel
theorem dX6_way_63 : decode cX6_way 63 = .ok (.irem, 1) := by decide +kernel
theorem dX6_way_64 : decode cX6_way 64 = .ok (.goto 29, 3) := by decide +kernel
theorem dX6_way_67 : decode cX6_way 67 = .ok (.iload_n 1, 1) := by decide +kernel
theorem dX6_way_68 : decode cX6_way 68 = .ok (.aload_n 0, 1) := by decide +kernel
theorem dX6_way_69 : decode cX6_way 69 = .ok (.getfield 184, 3) := by decide +kernel
theorem dX6_way_72 : decode cX6_way 72 = .ok (.if_icmp .ne 8, 3) := by decide +kernel
theorem dX6_way_75 : decode cX6_way 75 = .ok (.bipush (-5), 2) := by decide +kernel
theorem dX6_way_77 : decode cX6_way 77 = .ok (.goto 16, 3) := by decide +kernel
theorem dX6_way_80 : decode cX6_way 80 = .ok (.aload_n 0, 1) := by decide +kernel
theorem dX6_way_81 : decode cX6_way 81 = .ok (.getfield 28, 3) := by decide +kernel
theorem dX6_way_84 : decode cX6_way 84 = .ok (.aload_n 0, 1) := by decide +kernel
theorem dX6_way_85 : decode cX6_way 85 = .ok (.getfield 40, 3) := by decide +kernel
theorem dX6_way_88 : decode cX6_way 88 = .ok (.iload_n 1, 1) := by decide +kernel
theorem dX6_way_89 : decode cX6_way 89 = .ok (.iconst 1, 1) := by decide +kernel
theorem dX6_way_90 : decode cX6_way 90 = .ok (.iadd, 1) := by decide +kernel
theorem dX6_way_91 : decode cX6_way 91 = .ok (.iaload, 1) := by decide +kernel
theorem dX6_way_92 : decode cX6_way 92 = .ok (.iaload, 1) := by decide +kernel
theorem dX6_way_93 : decode cX6_way 93 = .ok (.ireturn, 1) := by decide +kernel
theorem dX6_wayMood_0 : decode cX6_wayMood 0 = .ok (.aload_n 0, 1) := by decide +kernel
theorem dX6_wayMood_1 : decode cX6_wayMood 1 = .ok (.invokevirtual 187, 3) := by decide +kernel
theorem dX6_wayMood_4 : decode cX6_wayMood 4 = .ok (.ifCond .ne 6, 3) := by decide +kernel
theorem dX6_wayMood_7 : decode cX6_wayMood 7 = .ok (.bipush (-5), 2) := by decide +kernel
theorem dX6_wayMood_9 : decode cX6_wayMood 9 = .ok (.ireturn, 1) := by decide +kernel
theorem dX6_wayMood_10 : decode cX6_wayMood 10 = .ok (.fconst 0, 1) := by decide +kernel
theorem dX6_wayMood_11 : decode cX6_wayMood 11 = .ok (.fstore_n 1, 1) := by decide +kernel
theorem dX6_wayMood_12 : decode cX6_wayMood 12 = .ok (.iconst 0, 1) := by decide +kernel
theorem dX6_wayMood_13 : decode cX6_wayMood 13 = .ok (.istore_n 2, 1) := by decide +kernel
theorem dX6_wayMood_14 : decode cX6_wayMood 14 = .ok (.iload_n 2, 1) := by decide +kernel
theorem dX6_wayMood_15 : decode cX6_wayMood 15 = .ok (.aload_n 0, 1) := by decide +kernel
theorem dX6_wayMood_16 : decode cX6_wayMood 16 = .ok (.getfield 184, 3) := by decide +kernel
theorem dX6_wayMood_19 : decode cX6_wayMood 19 = .ok (.if_icmp .gt 25, 3) := by decide +kernel
theorem dX6_wayMood_22 : decode cX6_wayMood 22 = .ok (.fload_n 1, 1) := by decide +kernel
theorem dX6_wayMood_23 : decode cX6_wayMood 23 = .ok (.aload_n 0, 1) := by decide +kernel
theorem dX6_wayMood_24 : decode cX6_wayMood 24 = .ok (.aload_n 0, 1) := by decide +kernel
theorem dX6_wayMood_25 : decode cX6_wayMood 25 = .ok (.getfield 40, 3) := by decide +kernel
theorem dX6_wayMood_28 : decode cX6_wayMood 28 = .ok (.iload_n 2, 1) := by decide +kernel
theorem dX6_wayMood_29 : decode cX6_wayMood 29 = .ok (.iaload, 1) := by decide +kernel
theorem dX6_wayMood_30 : decode cX6_wayMood 30 = .ok (.bipush 32, 2) := by decide +kernel
theorem dX6_wayMood_32 : decode cX6_wayMood 32 = .ok (.idiv, 1) := by decide +kernel
theorem dX6_wayMood_33 : decode cX6_wayMood 33 = .ok (.invokevirtual 156, 3) := by decide +kernel
theorem dX6_wayMood_36 : decode cX6_wayMood 36 = .ok (.fadd, 1) := by decide +kernel
theorem dX6_wayMood_37 : decode cX6_wayMood 37 = .ok (.fstore_n 1, 1) := by decide +kernel
theorem dX6_wayMood_38 : decode cX6_wayMood 38 = .ok (.iinc 2 1, 3) := by decide +kernel
theorem dX6_wayMood_41 : decode cX6_wayMood 41 = .ok (.goto (-27), 3) := by decide +kernel
theorem dX6_wayMood_44 : decode cX6_wayMood 44 = .ok (.fload_n 1, 1) := by decide +kernel
theorem dX6_wayMood_45 : decode cX6_wayMood 45 = .ok (.invokestatic 160, 3) := by decide +kernel
theorem dX6_wayMood_48 : decode cX6_wayMood 48 = .ok (.ireturn, 1) := by decide +kernel
theorem dX6_choices_0 : decode cX6_choices 0 = .ok (.iconst 0, 1) := by decide +kernel
theorem dX6_choices_1 : decode cX6_choices 1 = .ok (.istore_n 1, 1) := by decide +kernel
theorem dX6_choices_2 : decode cX6_choices 2 = .ok (.iconst 0, 1) := by decide +kernel
theorem dX6_choices_3 : decode cX6_choices 3 = .ok (.istore_n 2, 1) := by decide +kernel
theorem dX6_choices_4 : decode cX6_choices 4 = .ok (.iload_n 2, 1) := by decide +kernel
theorem dX6_choices_5 : decode cX6_choices 5 = .ok (.aload_n 0, 1) := by decide +kernel
theorem dX6_choices_6 : decode cX6_choices 6 = .ok (.getfield 7, 3) := by decide +kernel
theorem dX6_choices_9 : decode cX6_choices 9 = .ok (.iconst 0, 1) := by decide +kernel
theorem dX6_choices_10 : decode cX6_choices 10 = .ok (.iaload, 1) := by decide +kernel
theorem dX6_choices_11 : decode cX6_choices 11 = .ok (.if_icmp .ge 18, 3) := by decide +kernel
theorem dX6_choices_14 : decode cX6_choices 14 = .ok (.iload_n 1, 1) := by decide +kernel
theorem dX6_choices_15 : decode cX6_choices 15 = .ok (.aload_n 0, 1) := by decide +kernel
theorem dX6_choices_16 : decode cX6_choices 16 = .ok (.iload_n 2, 1) := by decide +kernel
theorem dX6_choices_17 : decode cX6_choices 17 = .ok (.iconst 3, 1) := by decide +kernel
theorem dX6_choices_18 : decode cX6_choices 18 = .ok (.invokevirtual 62, 3) := by decide +kernel
theorem dX6_choices_21 : decode cX6_choices 21 = .ok (.iadd, 1) := by decide +kernel
theorem dX6_choices_22 : decode cX6_choices 22 = .ok (.istore_n 1, 1) := by decide +kernel
theorem dX6_choices_23 : decode cX6_choices 23 = .ok (.iinc 2 1, 3) := by decide +kernel
theorem dX6_choices_26 : decode cX6_choices 26 = .ok (.goto (-22), 3) := by decide +kernel
theorem dX6_choices_29 : decode cX6_choices 29 = .ok (.iload_n 1, 1) := by decide +kernel
theorem dX6_choices_30 : decode cX6_choices 30 = .ok (.ireturn, 1) := by decide +kernel
theorem dX6_again_0 : decode cX6_again 0 = .ok (.aload_n 0, 1) := by decide +kernel
theorem dX6_again_1 : decode cX6_again 1 = .ok (.invokevirtual 99, 3) := by decide +kernel
theorem dX6_again_4 : decode cX6_again 4 = .ok (.iconst 0, 1) := by decide +kernel
theorem dX6_again_5 : decode cX6_again 5 = .ok (.istore_n 1, 1) := by decide +kernel
theorem dX6_again_6 : decode cX6_again 6 = .ok (.iconst 0, 1) := by decide +kernel
theorem dX6_again_7 : decode cX6_again 7 = .ok (.istore_n 2, 1) := by decide +kernel
theorem dX6_again_8 : decode cX6_again 8 = .ok (.iload_n 2, 1) := by decide +kernel
theorem dX6_again_9 : decode cX6_again 9 = .ok (.aload_n 0, 1) := by decide +kernel
theorem dX6_again_10 : decode cX6_again 10 = .ok (.getfield 7, 3) := by decide +kernel
theorem dX6_again_13 : decode cX6_again 13 = .ok (.iconst 0, 1) := by decide +kernel
theorem dX6_again_14 : decode cX6_again 14 = .ok (.iaload, 1) := by decide +kernel
theorem dX6_again_15 : decode cX6_again 15 = .ok (.if_icmp .ge 25, 3) := by decide +kernel
theorem dX6_again_18 : decode cX6_again 18 = .ok (.iload_n 1, 1) := by decide +kernel
theorem dX6_again_19 : decode cX6_again 19 = .ok (.aload_n 0, 1) := by decide +kernel
theorem dX6_again_20 : decode cX6_again 20 = .ok (.iload_n 2, 1) := by decide +kernel
theorem dX6_again_21 : decode cX6_again 21 = .ok (.invokevirtual 172, 3) := by decide +kernel
theorem dX6_again_24 : decode cX6_again 24 = .ok (.ifCond .eq 7, 3) := by decide +kernel
theorem dX6_again_27 : decode cX6_again 27 = .ok (.iconst 1, 1) := by decide +kernel
theorem dX6_again_28 : decode cX6_again 28 = .ok (.goto 4, 3) := by decide +kernel
theorem dX6_again_31 : decode cX6_again 31 = .ok (.iconst 0, 1) := by decide +kernel
theorem dX6_again_32 : decode cX6_again 32 = .ok (.iadd, 1) := by decide +kernel
theorem dX6_again_33 : decode cX6_again 33 = .ok (.istore_n 1, 1) := by decide +kernel
theorem dX6_again_34 : decode cX6_again 34 = .ok (.iinc 2 1, 3) := by decide +kernel
theorem dX6_again_37 : decode cX6_again 37 = .ok (.goto (-29), 3) := by decide +kernel
theorem dX6_again_40 : decode cX6_again 40 = .ok (.iload_n 1, 1) := by decide +kernel
theorem dX6_again_41 : decode cX6_again 41 = .ok (.ireturn, 1) := by decide +kernel
theorem dX6_pagesThere_0 : decode cX6_pagesThere 0 = .ok (.aload_n 0, 1) := by decide +kernel
theorem dX6_pagesThere_1 : decode cX6_pagesThere 1 = .ok (.invokevirtual 96, 3) := by decide +kernel
theorem dX6_pagesThere_4 : decode cX6_pagesThere 4 = .ok (.iconst 0, 1) := by decide +kernel
theorem dX6_pagesThere_5 : decode cX6_pagesThere 5 = .ok (.istore_n 2, 1) := by decide +kernel
theorem dX6_pagesThere_6 : decode cX6_pagesThere 6 = .ok (.iconst 0, 1) := by decide +kernel
theorem dX6_pagesThere_7 : decode cX6_pagesThere 7 = .ok (.istore_n 3, 1) := by decide +kernel
theorem dX6_pagesThere_8 : decode cX6_pagesThere 8 = .ok (.iload_n 3, 1) := by decide +kernel
theorem dX6_pagesThere_9 : decode cX6_pagesThere 9 = .ok (.aload_n 0, 1) := by decide +kernel
theorem dX6_pagesThere_10 : decode cX6_pagesThere 10 = .ok (.getfield 7, 3) := by decide +kernel
theorem dX6_pagesThere_13 : decode cX6_pagesThere 13 = .ok (.iconst 0, 1) := by decide +kernel
theorem dX6_pagesThere_14 : decode cX6_pagesThere 14 = .ok (.iaload, 1) := by decide +kernel
theorem dX6_pagesThere_15 : decode cX6_pagesThere 15 = .ok (.if_icmp .ge 119, 3) := by decide +kernel
theorem dX6_pagesThere_18 : decode cX6_pagesThere 18 = .ok (.sipush 9999, 3) := by decide +kernel
theorem dX6_pagesThere_21 : decode cX6_pagesThere 21 = .ok (.istore 4, 2) := by decide +kernel
theorem dX6_pagesThere_23 : decode cX6_pagesThere 23 = .ok (.iconst 0, 1) := by decide +kernel
theorem dX6_pagesThere_24 : decode cX6_pagesThere 24 = .ok (.istore 5, 2) := by decide +kernel
theorem dX6_pagesThere_26 : decode cX6_pagesThere 26 = .ok (.iload 5, 2) := by decide +kernel
theorem dX6_pagesThere_28 : decode cX6_pagesThere 28 = .ok (.bipush 31, 2) := by decide +kernel
theorem dX6_pagesThere_30 : decode cX6_pagesThere 30 = .ok (.if_icmp .gt 45, 3) := by decide +kernel
theorem dX6_pagesThere_33 : decode cX6_pagesThere 33 = .ok (.aload_n 0, 1) := by decide +kernel
theorem dX6_pagesThere_34 : decode cX6_pagesThere 34 = .ok (.getfield 22, 3) := by decide +kernel
theorem dX6_pagesThere_37 : decode cX6_pagesThere 37 = .ok (.bipush 32, 2) := by decide +kernel
theorem dX6_pagesThere_39 : decode cX6_pagesThere 39 = .ok (.iload_n 3, 1) := by decide +kernel
theorem dX6_pagesThere_40 : decode cX6_pagesThere 40 = .ok (.imul, 1) := by decide +kernel
theorem dX6_pagesThere_41 : decode cX6_pagesThere 41 = .ok (.iload 5, 2) := by decide +kernel
theorem dX6_pagesThere_43 : decode cX6_pagesThere 43 = .ok (.iadd, 1) := by decide +kernel
theorem dX6_pagesThere_44 : decode cX6_pagesThere 44 = .ok (.iaload, 1) := by decide +kernel
theorem dX6_pagesThere_45 : decode cX6_pagesThere 45 = .ok (.iload 4, 2) := by decide +kernel
theorem dX6_pagesThere_47 : decode cX6_pagesThere 47 = .ok (.if_icmp .ge 18, 3) := by decide +kernel
theorem dX6_pagesThere_50 : decode cX6_pagesThere 50 = .ok (.aload_n 0, 1) := by decide +kernel
theorem dX6_pagesThere_51 : decode cX6_pagesThere 51 = .ok (.getfield 22, 3) := by decide +kernel
theorem dX6_pagesThere_54 : decode cX6_pagesThere 54 = .ok (.bipush 32, 2) := by decide +kernel
theorem dX6_pagesThere_56 : decode cX6_pagesThere 56 = .ok (.iload_n 3, 1) := by decide +kernel
theorem dX6_pagesThere_57 : decode cX6_pagesThere 57 = .ok (.imul, 1) := by decide +kernel
theorem dX6_pagesThere_58 : decode cX6_pagesThere 58 = .ok (.iload 5, 2) := by decide +kernel
theorem dX6_pagesThere_60 : decode cX6_pagesThere 60 = .ok (.iadd, 1) := by decide +kernel
theorem dX6_pagesThere_61 : decode cX6_pagesThere 61 = .ok (.iaload, 1) := by decide +kernel
theorem dX6_pagesThere_62 : decode cX6_pagesThere 62 = .ok (.goto 5, 3) := by decide +kernel
theorem dX6_pagesThere_65 : decode cX6_pagesThere 65 = .ok (.iload 4, 2) := by decide +kernel
theorem dX6_pagesThere_67 : decode cX6_pagesThere 67 = .ok (.istore 4, 2) := by decide +kernel
theorem dX6_pagesThere_69 : decode cX6_pagesThere 69 = .ok (.iinc 5 1, 3) := by decide +kernel
theorem dX6_pagesThere_72 : decode cX6_pagesThere 72 = .ok (.goto (-46), 3) := by decide +kernel
theorem dX6_pagesThere_75 : decode cX6_pagesThere 75 = .ok (.iload_n 1, 1) := by decide +kernel
theorem dX6_pagesThere_76 : decode cX6_pagesThere 76 = .ok (.ifCond .eq 24, 3) := by decide +kernel
theorem dX6_pagesThere_79 : decode cX6_pagesThere 79 = .ok (.aload_n 0, 1) := by decide +kernel
theorem dX6_pagesThere_80 : decode cX6_pagesThere 80 = .ok (.iload_n 3, 1) := by decide +kernel
theorem dX6_pagesThere_81 : decode cX6_pagesThere 81 = .ok (.invokevirtual 66, 3) := by decide +kernel
theorem dX6_pagesThere_84 : decode cX6_pagesThere 84 = .ok (.ifCond .eq 20, 3) := by decide +kernel
theorem dX6_pagesThere_87 : decode cX6_pagesThere 87 = .ok (.iload_n 1, 1) := by decide +kernel
theorem dX6_pagesThere_88 : decode cX6_pagesThere 88 = .ok (.iconst 1, 1) := by decide +kernel
theorem dX6_pagesThere_89 : decode cX6_pagesThere 89 = .ok (.if_icmp .eq 11, 3) := by decide +kernel
theorem dX6_pagesThere_92 : decode cX6_pagesThere 92 = .ok (.aload_n 0, 1) := by decide +kernel
theorem dX6_pagesThere_93 : decode cX6_pagesThere 93 = .ok (.iload_n 3, 1) := by decide +kernel
theorem dX6_pagesThere_94 : decode cX6_pagesThere 94 = .ok (.invokevirtual 166, 3) := by decide +kernel
theorem dX6_pagesThere_97 : decode cX6_pagesThere 97 = .ok (.ifCond .eq 7, 3) := by decide +kernel
theorem dX6_pagesThere_100 : decode cX6_pagesThere 100 = .ok (.iconst 1, 1) := by decide +kernel
theorem dX6_pagesThere_101 : decode cX6_pagesThere 101 = .ok (.goto 4, 3) := by decide +kernel
theorem dX6_pagesThere_104 : decode cX6_pagesThere 104 = .ok (.iconst 0, 1) := by decide +kernel
theorem dX6_pagesThere_105 : decode cX6_pagesThere 105 = .ok (.istore 5, 2) := by decide +kernel
theorem dX6_pagesThere_107 : decode cX6_pagesThere 107 = .ok (.iload_n 2, 1) := by decide +kernel
theorem dX6_pagesThere_108 : decode cX6_pagesThere 108 = .ok (.iload 5, 2) := by decide +kernel
theorem dX6_pagesThere_110 : decode cX6_pagesThere 110 = .ok (.ifCond .eq 15, 3) := by decide +kernel
theorem dX6_pagesThere_113 : decode cX6_pagesThere 113 = .ok (.iload 4, 2) := by decide +kernel
theorem dX6_pagesThere_115 : decode cX6_pagesThere 115 = .ok (.sipush 9999, 3) := by decide +kernel
theorem dX6_pagesThere_118 : decode cX6_pagesThere 118 = .ok (.if_icmp .ge 7, 3) := by decide +kernel
theorem dX6_pagesThere_121 : decode cX6_pagesThere 121 = .ok (.iconst 1, 1) := by decide +kernel
theorem dX6_pagesThere_122 : decode cX6_pagesThere 122 = .ok (.goto 4, 3) := by decide +kernel
theorem dX6_pagesThere_125 : decode cX6_pagesThere 125 = .ok (.iconst 0, 1) := by decide +kernel
theorem dX6_pagesThere_126 : decode cX6_pagesThere 126 = .ok (.iadd, 1) := by decide +kernel
theorem dX6_pagesThere_127 : decode cX6_pagesThere 127 = .ok (.istore_n 2, 1) := by decide +kernel
theorem dX6_pagesThere_128 : decode cX6_pagesThere 128 = .ok (.iinc 3 1, 3) := by decide +kernel
theorem dX6_pagesThere_131 : decode cX6_pagesThere 131 = .ok (.goto (-123), 3) := by decide +kernel
theorem dX6_pagesThere_134 : decode cX6_pagesThere 134 = .ok (.iload_n 2, 1) := by decide +kernel
theorem dX6_pagesThere_135 : decode cX6_pagesThere 135 = .ok (.ireturn, 1) := by decide +kernel
theorem dX6_places_0 : decode cX6_places 0 = .ok (.aload_n 0, 1) := by decide +kernel
theorem dX6_places_1 : decode cX6_places 1 = .ok (.invokevirtual 96, 3) := by decide +kernel
theorem dX6_places_4 : decode cX6_places 4 = .ok (.aload_n 0, 1) := by decide +kernel
theorem dX6_places_5 : decode cX6_places 5 = .ok (.getfield 76, 3) := by decide +kernel
theorem dX6_places_8 : decode cX6_places 8 = .ok (.ireturn, 1) := by decide +kernel
theorem dX6_count_0 : decode cX6_count 0 = .ok (.iload_n 1, 1) := by decide +kernel
theorem dX6_count_1 : decode cX6_count 1 = .ok (.tableswitch 161 0 11 #[63, 70, 75, 88, 93, 102, 107, 107, 115, 132, 151, 156], 63) := by decide +kernel
theorem dX6_count_64 : decode cX6_count 64 = .ok (.aload_n 0, 1) := by decide +kernel
theorem dX6_count_65 : decode cX6_count 65 = .ok (.getfield 7, 3) := by decide +kernel
theorem dX6_count_68 : decode cX6_count 68 = .ok (.iconst 0, 1) := by decide +kernel
theorem dX6_count_69 : decode cX6_count 69 = .ok (.iaload, 1) := by decide +kernel
theorem dX6_count_70 : decode cX6_count 70 = .ok (.ireturn, 1) := by decide +kernel
theorem dX6_count_71 : decode cX6_count 71 = .ok (.aload_n 0, 1) := by decide +kernel
theorem dX6_count_72 : decode cX6_count 72 = .ok (.invokevirtual 191, 3) := by decide +kernel
theorem dX6_count_75 : decode cX6_count 75 = .ok (.ireturn, 1) := by decide +kernel
theorem dX6_count_76 : decode cX6_count 76 = .ok (.aload_n 0, 1) := by decide +kernel
theorem dX6_count_77 : decode cX6_count 77 = .ok (.getfield 7, 3) := by decide +kernel
theorem dX6_count_80 : decode cX6_count 80 = .ok (.iconst 0, 1) := by decide +kernel
theorem dX6_count_81 : decode cX6_count 81 = .ok (.iaload, 1) := by decide +kernel
theorem dX6_count_82 : decode cX6_count 82 = .ok (.aload_n 0, 1) := by decide +kernel
theorem dX6_count_83 : decode cX6_count 83 = .ok (.iconst 0, 1) := by decide +kernel
theorem dX6_count_84 : decode cX6_count 84 = .ok (.invokevirtual 194, 3) := by decide +kernel
theorem dX6_count_87 : decode cX6_count 87 = .ok (.isub, 1) := by decide +kernel
theorem dX6_count_88 : decode cX6_count 88 = .ok (.ireturn, 1) := by decide +kernel
theorem dX6_count_89 : decode cX6_count 89 = .ok (.aload_n 0, 1) := by decide +kernel
theorem dX6_count_90 : decode cX6_count 90 = .ok (.invokevirtual 197, 3) := by decide +kernel
theorem dX6_count_93 : decode cX6_count 93 = .ok (.ireturn, 1) := by decide +kernel
theorem dX6_count_94 : decode cX6_count 94 = .ok (.aload_n 0, 1) := by decide +kernel
theorem dX6_count_95 : decode cX6_count 95 = .ok (.iconst 0, 1) := by decide +kernel
theorem dX6_count_96 : decode cX6_count 96 = .ok (.sipush 1023, 3) := by decide +kernel
theorem dX6_count_99 : decode cX6_count 99 = .ok (.invokevirtual 175, 3) := by decide +kernel
theorem dX6_count_102 : decode cX6_count 102 = .ok (.ireturn, 1) := by decide +kernel
theorem dX6_count_103 : decode cX6_count 103 = .ok (.aload_n 0, 1) := by decide +kernel
theorem dX6_count_104 : decode cX6_count 104 = .ok (.invokevirtual 200, 3) := by decide +kernel
theorem dX6_count_107 : decode cX6_count 107 = .ok (.ireturn, 1) := by decide +kernel
theorem dX6_count_108 : decode cX6_count 108 = .ok (.aload_n 0, 1) := by decide +kernel
theorem dX6_count_109 : decode cX6_count 109 = .ok (.iload_n 1, 1) := by decide +kernel
theorem dX6_count_110 : decode cX6_count 110 = .ok (.iconst 5, 1) := by decide +kernel
theorem dX6_count_111 : decode cX6_count 111 = .ok (.isub, 1) := by decide +kernel
theorem dX6_count_112 : decode cX6_count 112 = .ok (.invokevirtual 194, 3) := by decide +kernel
theorem dX6_count_115 : decode cX6_count 115 = .ok (.ireturn, 1) := by decide +kernel
theorem dX6_count_116 : decode cX6_count 116 = .ok (.aload_n 0, 1) := by decide +kernel
theorem dX6_count_117 : decode cX6_count 117 = .ok (.invokevirtual 187, 3) := by decide +kernel
theorem dX6_count_120 : decode cX6_count 120 = .ok (.ifCond .eq 10, 3) := by decide +kernel
theorem dX6_count_123 : decode cX6_count 123 = .ok (.aload_n 0, 1) := by decide +kernel
theorem dX6_count_124 : decode cX6_count 124 = .ok (.getfield 184, 3) := by decide +kernel
theorem dX6_count_127 : decode cX6_count 127 = .ok (.goto 5, 3) := by decide +kernel
theorem dX6_count_130 : decode cX6_count 130 = .ok (.bipush (-5), 2) := by decide +kernel
theorem dX6_count_132 : decode cX6_count 132 = .ok (.ireturn, 1) := by decide +kernel
theorem dX6_count_133 : decode cX6_count 133 = .ok (.aload_n 0, 1) := by decide +kernel
theorem dX6_count_134 : decode cX6_count 134 = .ok (.getfield 7, 3) := by decide +kernel
theorem dX6_count_137 : decode cX6_count 137 = .ok (.sipush 423, 3) := by decide +kernel
theorem dX6_count_140 : decode cX6_count 140 = .ok (.iaload, 1) := by decide +kernel
theorem dX6_count_141 : decode cX6_count 141 = .ok (.bipush (-5), 2) := by decide +kernel
theorem dX6_count_143 : decode cX6_count 143 = .ok (.if_icmp .ne 7, 3) := by decide +kernel
theorem dX6_count_146 : decode cX6_count 146 = .ok (.iconst 0, 1) := by decide +kernel
theorem dX6_count_147 : decode cX6_count 147 = .ok (.goto 4, 3) := by decide +kernel
theorem dX6_count_150 : decode cX6_count 150 = .ok (.iconst 1, 1) := by decide +kernel
theorem dX6_count_151 : decode cX6_count 151 = .ok (.ireturn, 1) := by decide +kernel
theorem dX6_count_152 : decode cX6_count 152 = .ok (.aload_n 0, 1) := by decide +kernel
theorem dX6_count_153 : decode cX6_count 153 = .ok (.getfield 46, 3) := by decide +kernel
theorem dX6_count_156 : decode cX6_count 156 = .ok (.ireturn, 1) := by decide +kernel
theorem dX6_count_157 : decode cX6_count 157 = .ok (.aload_n 0, 1) := by decide +kernel
theorem dX6_count_158 : decode cX6_count 158 = .ok (.getfield 203, 3) := by decide +kernel
theorem dX6_count_161 : decode cX6_count 161 = .ok (.ireturn, 1) := by decide +kernel
theorem dX6_count_162 : decode cX6_count 162 = .ok (.bipush (-2), 2) := by decide +kernel
theorem dX6_count_164 : decode cX6_count 164 = .ok (.ireturn, 1) := by decide +kernel
theorem dX6_undo_0 : decode cX6_undo 0 = .ok (.aload_n 0, 1) := by decide +kernel
theorem dX6_undo_1 : decode cX6_undo 1 = .ok (.getfield 46, 3) := by decide +kernel
theorem dX6_undo_4 : decode cX6_undo 4 = .ok (.ifCond .ne 6, 3) := by decide +kernel
theorem dX6_undo_7 : decode cX6_undo 7 = .ok (.bipush (-5), 2) := by decide +kernel
theorem dX6_undo_9 : decode cX6_undo 9 = .ok (.ireturn, 1) := by decide +kernel
theorem dX6_undo_10 : decode cX6_undo 10 = .ok (.aload_n 0, 1) := by decide +kernel
theorem dX6_undo_11 : decode cX6_undo 11 = .ok (.dup, 1) := by decide +kernel
theorem dX6_undo_12 : decode cX6_undo 12 = .ok (.getfield 46, 3) := by decide +kernel
theorem dX6_undo_15 : decode cX6_undo 15 = .ok (.iconst 1, 1) := by decide +kernel
theorem dX6_undo_16 : decode cX6_undo 16 = .ok (.isub, 1) := by decide +kernel
theorem dX6_undo_17 : decode cX6_undo 17 = .ok (.putfield 46, 3) := by decide +kernel
theorem dX6_undo_20 : decode cX6_undo 20 = .ok (.iconst 0, 1) := by decide +kernel
theorem dX6_undo_21 : decode cX6_undo 21 = .ok (.istore_n 1, 1) := by decide +kernel
theorem dX6_undo_22 : decode cX6_undo 22 = .ok (.iload_n 1, 1) := by decide +kernel
theorem dX6_undo_23 : decode cX6_undo 23 = .ok (.sipush 425, 3) := by decide +kernel
theorem dX6_undo_26 : decode cX6_undo 26 = .ok (.if_icmp .ge 30, 3) := by decide +kernel
theorem dX6_undo_29 : decode cX6_undo 29 = .ok (.aload_n 0, 1) := by decide +kernel
theorem dX6_undo_30 : decode cX6_undo 30 = .ok (.getfield 7, 3) := by decide +kernel
theorem dX6_undo_33 : decode cX6_undo 33 = .ok (.iload_n 1, 1) := by decide +kernel
theorem dX6_undo_34 : decode cX6_undo 34 = .ok (.aload_n 0, 1) := by decide +kernel
theorem dX6_undo_35 : decode cX6_undo 35 = .ok (.getfield 16, 3) := by decide +kernel
theorem dX6_undo_38 : decode cX6_undo 38 = .ok (.sipush 425, 3) := by decide +kernel
theorem dX6_undo_41 : decode cX6_undo 41 = .ok (.aload_n 0, 1) := by decide +kernel
theorem dX6_undo_42 : decode cX6_undo 42 = .ok (.getfield 46, 3) := by decide +kernel
theorem dX6_undo_45 : decode cX6_undo 45 = .ok (.imul, 1) := by decide +kernel
theorem dX6_undo_46 : decode cX6_undo 46 = .ok (.iload_n 1, 1) := by decide +kernel
theorem dX6_undo_47 : decode cX6_undo 47 = .ok (.iadd, 1) := by decide +kernel
theorem dX6_undo_48 : decode cX6_undo 48 = .ok (.iaload, 1) := by decide +kernel
theorem dX6_undo_49 : decode cX6_undo 49 = .ok (.iastore, 1) := by decide +kernel
theorem dX6_undo_50 : decode cX6_undo 50 = .ok (.iinc 1 1, 3) := by decide +kernel
theorem dX6_undo_53 : decode cX6_undo 53 = .ok (.goto (-31), 3) := by decide +kernel
theorem dX6_undo_56 : decode cX6_undo 56 = .ok (.aload_n 0, 1) := by decide +kernel
theorem dX6_undo_57 : decode cX6_undo 57 = .ok (.getfield 46, 3) := by decide +kernel
theorem dX6_undo_60 : decode cX6_undo 60 = .ok (.ireturn, 1) := by decide +kernel
theorem dX6_keep_0 : decode cX6_keep 0 = .ok (.iconst 0, 1) := by decide +kernel
theorem dX6_keep_1 : decode cX6_keep 1 = .ok (.istore_n 1, 1) := by decide +kernel
theorem dX6_keep_2 : decode cX6_keep 2 = .ok (.iload_n 1, 1) := by decide +kernel
theorem dX6_keep_3 : decode cX6_keep 3 = .ok (.sipush 425, 3) := by decide +kernel
theorem dX6_keep_6 : decode cX6_keep 6 = .ok (.if_icmp .ge 21, 3) := by decide +kernel
theorem dX6_keep_9 : decode cX6_keep 9 = .ok (.aload_n 0, 1) := by decide +kernel
theorem dX6_keep_10 : decode cX6_keep 10 = .ok (.getfield 13, 3) := by decide +kernel
theorem dX6_keep_13 : decode cX6_keep 13 = .ok (.iload_n 1, 1) := by decide +kernel
theorem dX6_keep_14 : decode cX6_keep 14 = .ok (.aload_n 0, 1) := by decide +kernel
theorem dX6_keep_15 : decode cX6_keep 15 = .ok (.getfield 7, 3) := by decide +kernel
theorem dX6_keep_18 : decode cX6_keep 18 = .ok (.iload_n 1, 1) := by decide +kernel
theorem dX6_keep_19 : decode cX6_keep 19 = .ok (.iaload, 1) := by decide +kernel
theorem dX6_keep_20 : decode cX6_keep 20 = .ok (.iastore, 1) := by decide +kernel
theorem dX6_keep_21 : decode cX6_keep 21 = .ok (.iinc 1 1, 3) := by decide +kernel
theorem dX6_keep_24 : decode cX6_keep 24 = .ok (.goto (-22), 3) := by decide +kernel
theorem dX6_keep_27 : decode cX6_keep 27 = .ok (.aload_n 0, 1) := by decide +kernel
theorem dX6_keep_28 : decode cX6_keep 28 = .ok (.iconst 1, 1) := by decide +kernel
theorem dX6_keep_29 : decode cX6_keep 29 = .ok (.putfield 206, 3) := by decide +kernel
theorem dX6_keep_32 : decode cX6_keep 32 = .ok (.aload_n 0, 1) := by decide +kernel
theorem dX6_keep_33 : decode cX6_keep 33 = .ok (.getfield 7, 3) := by decide +kernel
theorem dX6_keep_36 : decode cX6_keep 36 = .ok (.iconst 0, 1) := by decide +kernel
theorem dX6_keep_37 : decode cX6_keep 37 = .ok (.iaload, 1) := by decide +kernel
theorem dX6_keep_38 : decode cX6_keep 38 = .ok (.ireturn, 1) := by decide +kernel
theorem dX6_restore_0 : decode cX6_restore 0 = .ok (.aload_n 0, 1) := by decide +kernel
theorem dX6_restore_1 : decode cX6_restore 1 = .ok (.getfield 206, 3) := by decide +kernel
theorem dX6_restore_4 : decode cX6_restore 4 = .ok (.ifCond .ne 6, 3) := by decide +kernel
theorem dX6_restore_7 : decode cX6_restore 7 = .ok (.bipush (-5), 2) := by decide +kernel
theorem dX6_restore_9 : decode cX6_restore 9 = .ok (.ireturn, 1) := by decide +kernel
theorem dX6_restore_10 : decode cX6_restore 10 = .ok (.aload_n 0, 1) := by decide +kernel
theorem dX6_restore_11 : decode cX6_restore 11 = .ok (.invokevirtual 114, 3) := by decide +kernel
theorem dX6_restore_14 : decode cX6_restore 14 = .ok (.iconst 0, 1) := by decide +kernel
theorem dX6_restore_15 : decode cX6_restore 15 = .ok (.istore_n 1, 1) := by decide +kernel
theorem dX6_restore_16 : decode cX6_restore 16 = .ok (.iload_n 1, 1) := by decide +kernel
theorem dX6_restore_17 : decode cX6_restore 17 = .ok (.sipush 425, 3) := by decide +kernel
theorem dX6_restore_20 : decode cX6_restore 20 = .ok (.if_icmp .ge 21, 3) := by decide +kernel
theorem dX6_restore_23 : decode cX6_restore 23 = .ok (.aload_n 0, 1) := by decide +kernel
theorem dX6_restore_24 : decode cX6_restore 24 = .ok (.getfield 7, 3) := by decide +kernel
theorem dX6_restore_27 : decode cX6_restore 27 = .ok (.iload_n 1, 1) := by decide +kernel
theorem dX6_restore_28 : decode cX6_restore 28 = .ok (.aload_n 0, 1) := by decide +kernel
theorem dX6_restore_29 : decode cX6_restore 29 = .ok (.getfield 13, 3) := by decide +kernel
theorem dX6_restore_32 : decode cX6_restore 32 = .ok (.iload_n 1, 1) := by decide +kernel
theorem dX6_restore_33 : decode cX6_restore 33 = .ok (.iaload, 1) := by decide +kernel
theorem dX6_restore_34 : decode cX6_restore 34 = .ok (.iastore, 1) := by decide +kernel
theorem dX6_restore_35 : decode cX6_restore 35 = .ok (.iinc 1 1, 3) := by decide +kernel
theorem dX6_restore_38 : decode cX6_restore 38 = .ok (.goto (-22), 3) := by decide +kernel
theorem dX6_restore_41 : decode cX6_restore 41 = .ok (.aload_n 0, 1) := by decide +kernel
theorem dX6_restore_42 : decode cX6_restore 42 = .ok (.getfield 7, 3) := by decide +kernel
theorem dX6_restore_45 : decode cX6_restore 45 = .ok (.iconst 0, 1) := by decide +kernel
theorem dX6_restore_46 : decode cX6_restore 46 = .ok (.iaload, 1) := by decide +kernel
theorem dX6_restore_47 : decode cX6_restore 47 = .ok (.ireturn, 1) := by decide +kernel
theorem dX6_type_0 : decode cX6_type 0 = .ok (.aload_n 0, 1) := by decide +kernel
theorem dX6_type_1 : decode cX6_type 1 = .ok (.getfield 203, 3) := by decide +kernel
theorem dX6_type_4 : decode cX6_type 4 = .ok (.bipush 60, 2) := by decide +kernel
theorem dX6_type_6 : decode cX6_type 6 = .ok (.if_icmp .ne 6, 3) := by decide +kernel
theorem dX6_type_9 : decode cX6_type 9 = .ok (.bipush (-3), 2) := by decide +kernel
theorem dX6_type_11 : decode cX6_type 11 = .ok (.ireturn, 1) := by decide +kernel
theorem dX6_type_12 : decode cX6_type 12 = .ok (.aload_n 0, 1) := by decide +kernel
theorem dX6_type_13 : decode cX6_type 13 = .ok (.getfield 19, 3) := by decide +kernel
theorem dX6_type_16 : decode cX6_type 16 = .ok (.aload_n 0, 1) := by decide +kernel
theorem dX6_type_17 : decode cX6_type 17 = .ok (.getfield 203, 3) := by decide +kernel
theorem dX6_type_20 : decode cX6_type 20 = .ok (.iload_n 1, 1) := by decide +kernel
theorem dX6_type_21 : decode cX6_type 21 = .ok (.iastore, 1) := by decide +kernel
theorem dX6_type_22 : decode cX6_type 22 = .ok (.aload_n 0, 1) := by decide +kernel
theorem dX6_type_23 : decode cX6_type 23 = .ok (.dup, 1) := by decide +kernel
theorem dX6_type_24 : decode cX6_type 24 = .ok (.getfield 203, 3) := by decide +kernel
theorem dX6_type_27 : decode cX6_type 27 = .ok (.iconst 1, 1) := by decide +kernel
theorem dX6_type_28 : decode cX6_type 28 = .ok (.iadd, 1) := by decide +kernel
theorem dX6_type_29 : decode cX6_type 29 = .ok (.putfield 203, 3) := by decide +kernel
theorem dX6_type_32 : decode cX6_type 32 = .ok (.aload_n 0, 1) := by decide +kernel
theorem dX6_type_33 : decode cX6_type 33 = .ok (.getfield 203, 3) := by decide +kernel
theorem dX6_type_36 : decode cX6_type 36 = .ok (.ireturn, 1) := by decide +kernel
theorem dX6_clearText_0 : decode cX6_clearText 0 = .ok (.aload_n 0, 1) := by decide +kernel
theorem dX6_clearText_1 : decode cX6_clearText 1 = .ok (.getfield 203, 3) := by decide +kernel
theorem dX6_clearText_4 : decode cX6_clearText 4 = .ok (.istore_n 1, 1) := by decide +kernel
theorem dX6_clearText_5 : decode cX6_clearText 5 = .ok (.aload_n 0, 1) := by decide +kernel
theorem dX6_clearText_6 : decode cX6_clearText 6 = .ok (.iconst 0, 1) := by decide +kernel
theorem dX6_clearText_7 : decode cX6_clearText 7 = .ok (.putfield 203, 3) := by decide +kernel
theorem dX6_clearText_10 : decode cX6_clearText 10 = .ok (.iload_n 1, 1) := by decide +kernel
theorem dX6_clearText_11 : decode cX6_clearText 11 = .ok (.ireturn, 1) := by decide +kernel
theorem dX6_here_0 : decode cX6_here 0 = .ok (.aload_n 0, 1) := by decide +kernel
theorem dX6_here_1 : decode cX6_here 1 = .ok (.getfield 210, 3) := by decide +kernel
theorem dX6_here_4 : decode cX6_here 4 = .ok (.aload_n 0, 1) := by decide +kernel
theorem dX6_here_5 : decode cX6_here 5 = .ok (.getfield 203, 3) := by decide +kernel
theorem dX6_here_8 : decode cX6_here 8 = .ok (.if_icmp .ge 15, 3) := by decide +kernel
theorem dX6_here_11 : decode cX6_here 11 = .ok (.aload_n 0, 1) := by decide +kernel
theorem dX6_here_12 : decode cX6_here 12 = .ok (.getfield 19, 3) := by decide +kernel
theorem dX6_here_15 : decode cX6_here 15 = .ok (.aload_n 0, 1) := by decide +kernel
theorem dX6_here_16 : decode cX6_here 16 = .ok (.getfield 210, 3) := by decide +kernel
theorem dX6_here_19 : decode cX6_here 19 = .ok (.iaload, 1) := by decide +kernel
theorem dX6_here_20 : decode cX6_here 20 = .ok (.goto 5, 3) := by decide +kernel
theorem dX6_here_23 : decode cX6_here 23 = .ok (.bipush (-5), 2) := by decide +kernel
theorem dX6_here_25 : decode cX6_here 25 = .ok (.ireturn, 1) := by decide +kernel
theorem dX6_takes_0 : decode cX6_takes 0 = .ok (.aload_n 0, 1) := by decide +kernel
theorem dX6_takes_1 : decode cX6_takes 1 = .ok (.aload_n 0, 1) := by decide +kernel
theorem dX6_takes_2 : decode cX6_takes 2 = .ok (.getfield 213, 3) := by decide +kernel
theorem dX6_takes_5 : decode cX6_takes 5 = .ok (.ifCond .eq 11, 3) := by decide +kernel
theorem dX6_takes_8 : decode cX6_takes 8 = .ok (.iload_n 1, 1) := by decide +kernel
theorem dX6_takes_9 : decode cX6_takes 9 = .ok (.ifCond .eq 7, 3) := by decide +kernel
theorem dX6_takes_12 : decode cX6_takes 12 = .ok (.iconst 1, 1) := by decide +kernel
theorem dX6_takes_13 : decode cX6_takes 13 = .ok (.goto 4, 3) := by decide +kernel
theorem dX6_takes_16 : decode cX6_takes 16 = .ok (.iconst 0, 1) := by decide +kernel
theorem dX6_takes_17 : decode cX6_takes 17 = .ok (.putfield 213, 3) := by decide +kernel
theorem dX6_takes_20 : decode cX6_takes 20 = .ok (.aload_n 0, 1) := by decide +kernel
theorem dX6_takes_21 : decode cX6_takes 21 = .ok (.dup, 1) := by decide +kernel
theorem dX6_takes_22 : decode cX6_takes 22 = .ok (.getfield 210, 3) := by decide +kernel
theorem dX6_takes_25 : decode cX6_takes 25 = .ok (.aload_n 0, 1) := by decide +kernel
theorem dX6_takes_26 : decode cX6_takes 26 = .ok (.getfield 213, 3) := by decide +kernel
theorem dX6_takes_29 : decode cX6_takes 29 = .ok (.ifCond .eq 7, 3) := by decide +kernel
theorem dX6_takes_32 : decode cX6_takes 32 = .ok (.iconst 1, 1) := by decide +kernel
theorem dX6_takes_33 : decode cX6_takes 33 = .ok (.goto 4, 3) := by decide +kernel
theorem dX6_takes_36 : decode cX6_takes 36 = .ok (.iconst 0, 1) := by decide +kernel
theorem dX6_takes_37 : decode cX6_takes 37 = .ok (.iadd, 1) := by decide +kernel
theorem dX6_takes_38 : decode cX6_takes 38 = .ok (.putfield 210, 3) := by decide +kernel
theorem dX6_takes_41 : decode cX6_takes 41 = .ok (.return_, 1) := by decide +kernel
theorem dX6_number_0 : decode cX6_number 0 = .ok (.aload_n 0, 1) := by decide +kernel
theorem dX6_number_1 : decode cX6_number 1 = .ok (.invokevirtual 216, 3) := by decide +kernel
theorem dX6_number_4 : decode cX6_number 4 = .ok (.bipush 48, 2) := by decide +kernel
theorem dX6_number_6 : decode cX6_number 6 = .ok (.isub, 1) := by decide +kernel
theorem dX6_number_7 : decode cX6_number 7 = .ok (.istore_n 1, 1) := by decide +kernel
theorem dX6_number_8 : decode cX6_number 8 = .ok (.aload_n 0, 1) := by decide +kernel
theorem dX6_number_9 : decode cX6_number 9 = .ok (.aload_n 0, 1) := by decide +kernel
theorem dX6_number_10 : decode cX6_number 10 = .ok (.invokevirtual 216, 3) := by decide +kernel
theorem dX6_number_13 : decode cX6_number 13 = .ok (.bipush 48, 2) := by decide +kernel
theorem dX6_number_15 : decode cX6_number 15 = .ok (.bipush 57, 2) := by decide +kernel
theorem dX6_number_17 : decode cX6_number 17 = .ok (.invokestatic 50, 3) := by decide +kernel
theorem dX6_number_20 : decode cX6_number 20 = .ok (.invokevirtual 219, 3) := by decide +kernel
theorem dX6_number_23 : decode cX6_number 23 = .ok (.aload_n 0, 1) := by decide +kernel
theorem dX6_number_24 : decode cX6_number 24 = .ok (.getfield 213, 3) := by decide +kernel
theorem dX6_number_27 : decode cX6_number 27 = .ok (.ifCond .eq 61, 3) := by decide +kernel
theorem dX6_number_30 : decode cX6_number 30 = .ok (.iload_n 1, 1) := by decide +kernel
theorem dX6_number_31 : decode cX6_number 31 = .ok (.ifCond .le 57, 3) := by decide +kernel
theorem dX6_number_34 : decode cX6_number 34 = .ok (.aload_n 0, 1) := by decide +kernel
theorem dX6_number_35 : decode cX6_number 35 = .ok (.invokevirtual 216, 3) := by decide +kernel
theorem dX6_number_38 : decode cX6_number 38 = .ok (.bipush 48, 2) := by decide +kernel
theorem dX6_number_40 : decode cX6_number 40 = .ok (.bipush 57, 2) := by decide +kernel
theorem dX6_number_42 : decode cX6_number 42 = .ok (.invokestatic 50, 3) := by decide +kernel
theorem dX6_number_45 : decode cX6_number 45 = .ok (.ifCond .eq 43, 3) := by decide +kernel
theorem dX6_number_48 : decode cX6_number 48 = .ok (.bipush 10, 2) := by decide +kernel
theorem dX6_number_50 : decode cX6_number 50 = .ok (.iload_n 1, 1) := by decide +kernel
theorem dX6_number_51 : decode cX6_number 51 = .ok (.imul, 1) := by decide +kernel
theorem dX6_number_52 : decode cX6_number 52 = .ok (.aload_n 0, 1) := by decide +kernel
theorem dX6_number_53 : decode cX6_number 53 = .ok (.invokevirtual 216, 3) := by decide +kernel
theorem dX6_number_56 : decode cX6_number 56 = .ok (.iadd, 1) := by decide +kernel
theorem dX6_number_57 : decode cX6_number 57 = .ok (.bipush 48, 2) := by decide +kernel
theorem dX6_number_59 : decode cX6_number 59 = .ok (.isub, 1) := by decide +kernel
theorem dX6_number_60 : decode cX6_number 60 = .ok (.bipush 31, 2) := by decide +kernel
theorem dX6_number_62 : decode cX6_number 62 = .ok (.if_icmp .gt 26, 3) := by decide +kernel
theorem dX6_number_65 : decode cX6_number 65 = .ok (.bipush 10, 2) := by decide +kernel
theorem dX6_number_67 : decode cX6_number 67 = .ok (.iload_n 1, 1) := by decide +kernel
theorem dX6_number_68 : decode cX6_number 68 = .ok (.imul, 1) := by decide +kernel
theorem dX6_number_69 : decode cX6_number 69 = .ok (.aload_n 0, 1) := by decide +kernel
theorem dX6_number_70 : decode cX6_number 70 = .ok (.invokevirtual 216, 3) := by decide +kernel
theorem dX6_number_73 : decode cX6_number 73 = .ok (.iadd, 1) := by decide +kernel
theorem dX6_number_74 : decode cX6_number 74 = .ok (.bipush 48, 2) := by decide +kernel
theorem dX6_number_76 : decode cX6_number 76 = .ok (.isub, 1) := by decide +kernel
theorem dX6_number_77 : decode cX6_number 77 = .ok (.istore_n 1, 1) := by decide +kernel
theorem dX6_number_78 : decode cX6_number 78 = .ok (.aload_n 0, 1) := by decide +kernel
theorem dX6_number_79 : decode cX6_number 79 = .ok (.dup, 1) := by decide +kernel
theorem dX6_number_80 : decode cX6_number 80 = .ok (.getfield 210, 3) := by decide +kernel
theorem dX6_number_83 : decode cX6_number 83 = .ok (.iconst 1, 1) := by decide +kernel
theorem dX6_number_84 : decode cX6_number 84 = .ok (.iadd, 1) := by decide +kernel
theorem dX6_number_85 : decode cX6_number 85 = .ok (.putfield 210, 3) := by decide +kernel
theorem dX6_number_88 : decode cX6_number 88 = .ok (.iload_n 1, 1) := by decide +kernel
theorem dX6_number_89 : decode cX6_number 89 = .ok (.ireturn, 1) := by decide +kernel
theorem dX6_flags_0 : decode cX6_flags 0 = .ok (.aload_n 0, 1) := by decide +kernel
theorem dX6_flags_1 : decode cX6_flags 1 = .ok (.invokevirtual 216, 3) := by decide +kernel
theorem dX6_flags_4 : decode cX6_flags 4 = .ok (.iload_n 1, 1) := by decide +kernel
theorem dX6_flags_5 : decode cX6_flags 5 = .ok (.if_icmp .eq 5, 3) := by decide +kernel
theorem dX6_flags_8 : decode cX6_flags 8 = .ok (.iconst 0, 1) := by decide +kernel
theorem dX6_flags_9 : decode cX6_flags 9 = .ok (.ireturn, 1) := by decide +kernel
theorem dX6_flags_10 : decode cX6_flags 10 = .ok (.aload_n 0, 1) := by decide +kernel
theorem dX6_flags_11 : decode cX6_flags 11 = .ok (.dup, 1) := by decide +kernel
theorem dX6_flags_12 : decode cX6_flags 12 = .ok (.getfield 210, 3) := by decide +kernel
theorem dX6_flags_15 : decode cX6_flags 15 = .ok (.iconst 1, 1) := by decide +kernel
theorem dX6_flags_16 : decode cX6_flags 16 = .ok (.iadd, 1) := by decide +kernel
theorem dX6_flags_17 : decode cX6_flags 17 = .ok (.putfield 210, 3) := by decide +kernel
theorem dX6_flags_20 : decode cX6_flags 20 = .ok (.iconst 0, 1) := by decide +kernel
theorem dX6_flags_21 : decode cX6_flags 21 = .ok (.istore_n 2, 1) := by decide +kernel
theorem dX6_flags_22 : decode cX6_flags 22 = .ok (.aload_n 0, 1) := by decide +kernel
theorem dX6_flags_23 : decode cX6_flags 23 = .ok (.invokevirtual 216, 3) := by decide +kernel
theorem dX6_flags_26 : decode cX6_flags 26 = .ok (.istore_n 3, 1) := by decide +kernel
theorem dX6_flags_27 : decode cX6_flags 27 = .ok (.aload_n 0, 1) := by decide +kernel
theorem dX6_flags_28 : decode cX6_flags 28 = .ok (.aload_n 0, 1) := by decide +kernel
theorem dX6_flags_29 : decode cX6_flags 29 = .ok (.invokevirtual 216, 3) := by decide +kernel
theorem dX6_flags_32 : decode cX6_flags 32 = .ok (.bipush 97, 2) := by decide +kernel
theorem dX6_flags_34 : decode cX6_flags 34 = .ok (.bipush 101, 2) := by decide +kernel
theorem dX6_flags_36 : decode cX6_flags 36 = .ok (.invokestatic 50, 3) := by decide +kernel
theorem dX6_flags_39 : decode cX6_flags 39 = .ok (.invokevirtual 219, 3) := by decide +kernel
theorem dX6_flags_42 : decode cX6_flags 42 = .ok (.aload_n 0, 1) := by decide +kernel
theorem dX6_flags_43 : decode cX6_flags 43 = .ok (.getfield 213, 3) := by decide +kernel
theorem dX6_flags_46 : decode cX6_flags 46 = .ok (.ifCond .eq 10, 3) := by decide +kernel
theorem dX6_flags_49 : decode cX6_flags 49 = .ok (.iconst 1, 1) := by decide +kernel
theorem dX6_flags_50 : decode cX6_flags 50 = .ok (.iload_n 3, 1) := by decide +kernel
theorem dX6_flags_51 : decode cX6_flags 51 = .ok (.bipush 97, 2) := by decide +kernel
theorem dX6_flags_53 : decode cX6_flags 53 = .ok (.isub, 1) := by decide +kernel
theorem dX6_flags_54 : decode cX6_flags 54 = .ok (.ishl, 1) := by decide +kernel
theorem dX6_flags_55 : decode cX6_flags 55 = .ok (.istore_n 2, 1) := by decide +kernel
theorem dX6_flags_56 : decode cX6_flags 56 = .ok (.aload_n 0, 1) := by decide +kernel
theorem dX6_flags_57 : decode cX6_flags 57 = .ok (.getfield 213, 3) := by decide +kernel
theorem dX6_flags_60 : decode cX6_flags 60 = .ok (.ifCond .eq 45, 3) := by decide +kernel
theorem dX6_flags_63 : decode cX6_flags 63 = .ok (.aload_n 0, 1) := by decide +kernel
theorem dX6_flags_64 : decode cX6_flags 64 = .ok (.invokevirtual 216, 3) := by decide +kernel
theorem dX6_flags_67 : decode cX6_flags 67 = .ok (.iload_n 3, 1) := by decide +kernel
theorem dX6_flags_68 : decode cX6_flags 68 = .ok (.iconst 1, 1) := by decide +kernel
theorem dX6_flags_69 : decode cX6_flags 69 = .ok (.iadd, 1) := by decide +kernel
theorem dX6_flags_70 : decode cX6_flags 70 = .ok (.bipush 101, 2) := by decide +kernel
theorem dX6_flags_72 : decode cX6_flags 72 = .ok (.invokestatic 50, 3) := by decide +kernel
theorem dX6_flags_75 : decode cX6_flags 75 = .ok (.ifCond .eq 30, 3) := by decide +kernel
theorem dX6_flags_78 : decode cX6_flags 78 = .ok (.aload_n 0, 1) := by decide +kernel
theorem dX6_flags_79 : decode cX6_flags 79 = .ok (.invokevirtual 216, 3) := by decide +kernel
theorem dX6_flags_82 : decode cX6_flags 82 = .ok (.istore_n 3, 1) := by decide +kernel
theorem dX6_flags_83 : decode cX6_flags 83 = .ok (.iload_n 2, 1) := by decide +kernel
theorem dX6_flags_84 : decode cX6_flags 84 = .ok (.iconst 1, 1) := by decide +kernel
theorem dX6_flags_85 : decode cX6_flags 85 = .ok (.iload_n 3, 1) := by decide +kernel
theorem dX6_flags_86 : decode cX6_flags 86 = .ok (.bipush 97, 2) := by decide +kernel
theorem dX6_flags_88 : decode cX6_flags 88 = .ok (.isub, 1) := by decide +kernel
theorem dX6_flags_89 : decode cX6_flags 89 = .ok (.ishl, 1) := by decide +kernel
theorem dX6_flags_90 : decode cX6_flags 90 = .ok (.ior, 1) := by decide +kernel
theorem dX6_flags_91 : decode cX6_flags 91 = .ok (.istore_n 2, 1) := by decide +kernel
theorem dX6_flags_92 : decode cX6_flags 92 = .ok (.aload_n 0, 1) := by decide +kernel
theorem dX6_flags_93 : decode cX6_flags 93 = .ok (.dup, 1) := by decide +kernel
theorem dX6_flags_94 : decode cX6_flags 94 = .ok (.getfield 210, 3) := by decide +kernel
theorem dX6_flags_97 : decode cX6_flags 97 = .ok (.iconst 1, 1) := by decide +kernel
theorem dX6_flags_98 : decode cX6_flags 98 = .ok (.iadd, 1) := by decide +kernel
theorem dX6_flags_99 : decode cX6_flags 99 = .ok (.putfield 210, 3) := by decide +kernel
theorem dX6_flags_102 : decode cX6_flags 102 = .ok (.goto (-46), 3) := by decide +kernel
theorem dX6_flags_105 : decode cX6_flags 105 = .ok (.iload_n 2, 1) := by decide +kernel
theorem dX6_flags_106 : decode cX6_flags 106 = .ok (.ireturn, 1) := by decide +kernel
theorem dX6_takesChoice_0 : decode cX6_takesChoice 0 = .ok (.iconst 4, 1) := by decide +kernel
theorem dX6_takesChoice_1 : decode cX6_takesChoice 1 = .ok (.aload_n 0, 1) := by decide +kernel
theorem dX6_takesChoice_2 : decode cX6_takesChoice 2 = .ok (.getfield 223, 3) := by decide +kernel
theorem dX6_takesChoice_5 : decode cX6_takesChoice 5 = .ok (.imul, 1) := by decide +kernel
theorem dX6_takesChoice_6 : decode cX6_takesChoice 6 = .ok (.istore_n 1, 1) := by decide +kernel
theorem dX6_takesChoice_7 : decode cX6_takesChoice 7 = .ok (.aload_n 0, 1) := by decide +kernel
theorem dX6_takesChoice_8 : decode cX6_takesChoice 8 = .ok (.getfield 43, 3) := by decide +kernel
theorem dX6_takesChoice_11 : decode cX6_takesChoice 11 = .ok (.iload_n 1, 1) := by decide +kernel
theorem dX6_takesChoice_12 : decode cX6_takesChoice 12 = .ok (.aload_n 0, 1) := by decide +kernel
theorem dX6_takesChoice_13 : decode cX6_takesChoice 13 = .ok (.invokevirtual 226, 3) := by decide +kernel
theorem dX6_takesChoice_16 : decode cX6_takesChoice 16 = .ok (.iastore, 1) := by decide +kernel
theorem dX6_takesChoice_17 : decode cX6_takesChoice 17 = .ok (.aload_n 0, 1) := by decide +kernel
theorem dX6_takesChoice_18 : decode cX6_takesChoice 18 = .ok (.aload_n 0, 1) := by decide +kernel
theorem dX6_takesChoice_19 : decode cX6_takesChoice 19 = .ok (.invokevirtual 216, 3) := by decide +kernel
theorem dX6_takesChoice_22 : decode cX6_takesChoice 22 = .ok (.bipush 62, 2) := by decide +kernel
theorem dX6_takesChoice_24 : decode cX6_takesChoice 24 = .ok (.if_icmp .ne 7, 3) := by decide +kernel
theorem dX6_takesChoice_27 : decode cX6_takesChoice 27 = .ok (.iconst 1, 1) := by decide +kernel
theorem dX6_takesChoice_28 : decode cX6_takesChoice 28 = .ok (.goto 4, 3) := by decide +kernel
theorem dX6_takesChoice_31 : decode cX6_takesChoice 31 = .ok (.iconst 0, 1) := by decide +kernel
theorem dX6_takesChoice_32 : decode cX6_takesChoice 32 = .ok (.invokevirtual 219, 3) := by decide +kernel
theorem dX6_takesChoice_35 : decode cX6_takesChoice 35 = .ok (.aload_n 0, 1) := by decide +kernel
theorem dX6_takesChoice_36 : decode cX6_takesChoice 36 = .ok (.getfield 43, 3) := by decide +kernel
theorem dX6_takesChoice_39 : decode cX6_takesChoice 39 = .ok (.iload_n 1, 1) := by decide +kernel
theorem dX6_takesChoice_40 : decode cX6_takesChoice 40 = .ok (.iconst 1, 1) := by decide +kernel
theorem dX6_takesChoice_41 : decode cX6_takesChoice 41 = .ok (.iadd, 1) := by decide +kernel
theorem dX6_takesChoice_42 : decode cX6_takesChoice 42 = .ok (.aload_n 0, 1) := by decide +kernel
theorem dX6_takesChoice_43 : decode cX6_takesChoice 43 = .ok (.invokevirtual 226, 3) := by decide +kernel
theorem dX6_takesChoice_46 : decode cX6_takesChoice 46 = .ok (.iastore, 1) := by decide +kernel
theorem dX6_takesChoice_47 : decode cX6_takesChoice 47 = .ok (.aload_n 0, 1) := by decide +kernel
theorem dX6_takesChoice_48 : decode cX6_takesChoice 48 = .ok (.getfield 43, 3) := by decide +kernel
theorem dX6_takesChoice_51 : decode cX6_takesChoice 51 = .ok (.iload_n 1, 1) := by decide +kernel
theorem dX6_takesChoice_52 : decode cX6_takesChoice 52 = .ok (.iconst 2, 1) := by decide +kernel
theorem dX6_takesChoice_53 : decode cX6_takesChoice 53 = .ok (.iadd, 1) := by decide +kernel
theorem dX6_takesChoice_54 : decode cX6_takesChoice 54 = .ok (.aload_n 0, 1) := by decide +kernel
theorem dX6_takesChoice_55 : decode cX6_takesChoice 55 = .ok (.getfield 213, 3) := by decide +kernel
theorem dX6_takesChoice_58 : decode cX6_takesChoice 58 = .ok (.ifCond .eq 12, 3) := by decide +kernel
theorem dX6_takesChoice_61 : decode cX6_takesChoice 61 = .ok (.aload_n 0, 1) := by decide +kernel
theorem dX6_takesChoice_62 : decode cX6_takesChoice 62 = .ok (.bipush 43, 2) := by decide +kernel
theorem dX6_takesChoice_64 : decode cX6_takesChoice 64 = .ok (.invokevirtual 229, 3) := by decide +kernel
theorem dX6_takesChoice_67 : decode cX6_takesChoice 67 = .ok (.goto 4, 3) := by decide +kernel
theorem dX6_takesChoice_70 : decode cX6_takesChoice 70 = .ok (.iconst 0, 1) := by decide +kernel
theorem dX6_takesChoice_71 : decode cX6_takesChoice 71 = .ok (.iastore, 1) := by decide +kernel
theorem dX6_takesChoice_72 : decode cX6_takesChoice 72 = .ok (.aload_n 0, 1) := by decide +kernel
theorem dX6_takesChoice_73 : decode cX6_takesChoice 73 = .ok (.getfield 43, 3) := by decide +kernel
theorem dX6_takesChoice_76 : decode cX6_takesChoice 76 = .ok (.iload_n 1, 1) := by decide +kernel
theorem dX6_takesChoice_77 : decode cX6_takesChoice 77 = .ok (.iconst 3, 1) := by decide +kernel
theorem dX6_takesChoice_78 : decode cX6_takesChoice 78 = .ok (.iadd, 1) := by decide +kernel
theorem dX6_takesChoice_79 : decode cX6_takesChoice 79 = .ok (.aload_n 0, 1) := by decide +kernel
theorem dX6_takesChoice_80 : decode cX6_takesChoice 80 = .ok (.getfield 213, 3) := by decide +kernel
theorem dX6_takesChoice_83 : decode cX6_takesChoice 83 = .ok (.ifCond .eq 12, 3) := by decide +kernel
theorem dX6_takesChoice_86 : decode cX6_takesChoice 86 = .ok (.aload_n 0, 1) := by decide +kernel
theorem dX6_takesChoice_87 : decode cX6_takesChoice 87 = .ok (.bipush 45, 2) := by decide +kernel
theorem dX6_takesChoice_89 : decode cX6_takesChoice 89 = .ok (.invokevirtual 229, 3) := by decide +kernel
theorem dX6_takesChoice_92 : decode cX6_takesChoice 92 = .ok (.goto 4, 3) := by decide +kernel
theorem dX6_takesChoice_95 : decode cX6_takesChoice 95 = .ok (.iconst 0, 1) := by decide +kernel
theorem dX6_takesChoice_96 : decode cX6_takesChoice 96 = .ok (.iastore, 1) := by decide +kernel
theorem dX6_takesChoice_97 : decode cX6_takesChoice 97 = .ok (.aload_n 0, 1) := by decide +kernel
theorem dX6_takesChoice_98 : decode cX6_takesChoice 98 = .ok (.dup, 1) := by decide +kernel
theorem dX6_takesChoice_99 : decode cX6_takesChoice 99 = .ok (.getfield 223, 3) := by decide +kernel
theorem dX6_takesChoice_102 : decode cX6_takesChoice 102 = .ok (.iconst 1, 1) := by decide +kernel
theorem dX6_takesChoice_103 : decode cX6_takesChoice 103 = .ok (.iadd, 1) := by decide +kernel
theorem dX6_takesChoice_104 : decode cX6_takesChoice 104 = .ok (.putfield 223, 3) := by decide +kernel
theorem dX6_takesChoice_107 : decode cX6_takesChoice 107 = .ok (.return_, 1) := by decide +kernel
theorem dX6_isRight_0 : decode cX6_isRight 0 = .ok (.aload_n 0, 1) := by decide +kernel
theorem dX6_isRight_1 : decode cX6_isRight 1 = .ok (.iconst 0, 1) := by decide +kernel
theorem dX6_isRight_2 : decode cX6_isRight 2 = .ok (.putfield 210, 3) := by decide +kernel
theorem dX6_isRight_5 : decode cX6_isRight 5 = .ok (.aload_n 0, 1) := by decide +kernel
theorem dX6_isRight_6 : decode cX6_isRight 6 = .ok (.iconst 0, 1) := by decide +kernel
theorem dX6_isRight_7 : decode cX6_isRight 7 = .ok (.putfield 223, 3) := by decide +kernel
theorem dX6_isRight_10 : decode cX6_isRight 10 = .ok (.aload_n 0, 1) := by decide +kernel
theorem dX6_isRight_11 : decode cX6_isRight 11 = .ok (.iconst 1, 1) := by decide +kernel
theorem dX6_isRight_12 : decode cX6_isRight 12 = .ok (.putfield 213, 3) := by decide +kernel
theorem dX6_isRight_15 : decode cX6_isRight 15 = .ok (.aload_n 0, 1) := by decide +kernel
theorem dX6_isRight_16 : decode cX6_isRight 16 = .ok (.invokevirtual 232, 3) := by decide +kernel
theorem dX6_isRight_19 : decode cX6_isRight 19 = .ok (.aload_n 0, 1) := by decide +kernel
theorem dX6_isRight_20 : decode cX6_isRight 20 = .ok (.getfield 213, 3) := by decide +kernel
theorem dX6_isRight_23 : decode cX6_isRight 23 = .ok (.ifCond .eq 46, 3) := by decide +kernel
theorem dX6_isRight_26 : decode cX6_isRight 26 = .ok (.aload_n 0, 1) := by decide +kernel
theorem dX6_isRight_27 : decode cX6_isRight 27 = .ok (.getfield 210, 3) := by decide +kernel
theorem dX6_isRight_30 : decode cX6_isRight 30 = .ok (.aload_n 0, 1) := by decide +kernel
theorem dX6_isRight_31 : decode cX6_isRight 31 = .ok (.getfield 203, 3) := by decide +kernel
theorem dX6_isRight_34 : decode cX6_isRight 34 = .ok (.if_icmp .ge 35, 3) := by decide +kernel
theorem dX6_isRight_37 : decode cX6_isRight 37 = .ok (.aload_n 0, 1) := by decide +kernel
theorem dX6_isRight_38 : decode cX6_isRight 38 = .ok (.aload_n 0, 1) := by decide +kernel
theorem dX6_isRight_39 : decode cX6_isRight 39 = .ok (.invokevirtual 216, 3) := by decide +kernel
theorem dX6_isRight_42 : decode cX6_isRight 42 = .ok (.bipush 59, 2) := by decide +kernel
theorem dX6_isRight_44 : decode cX6_isRight 44 = .ok (.if_icmp .ne 7, 3) := by decide +kernel
theorem dX6_isRight_47 : decode cX6_isRight 47 = .ok (.iconst 1, 1) := by decide +kernel
theorem dX6_isRight_48 : decode cX6_isRight 48 = .ok (.goto 4, 3) := by decide +kernel
theorem dX6_isRight_51 : decode cX6_isRight 51 = .ok (.iconst 0, 1) := by decide +kernel
theorem dX6_isRight_52 : decode cX6_isRight 52 = .ok (.invokevirtual 219, 3) := by decide +kernel
theorem dX6_isRight_55 : decode cX6_isRight 55 = .ok (.aload_n 0, 1) := by decide +kernel
theorem dX6_isRight_56 : decode cX6_isRight 56 = .ok (.getfield 213, 3) := by decide +kernel
theorem dX6_isRight_59 : decode cX6_isRight 59 = .ok (.ifCond .eq (-40), 3) := by decide +kernel
theorem dX6_isRight_62 : decode cX6_isRight 62 = .ok (.aload_n 0, 1) := by decide +kernel
theorem dX6_isRight_63 : decode cX6_isRight 63 = .ok (.invokevirtual 232, 3) := by decide +kernel
theorem dX6_isRight_66 : decode cX6_isRight 66 = .ok (.goto (-47), 3) := by decide +kernel
theorem dX6_isRight_69 : decode cX6_isRight 69 = .ok (.aload_n 0, 1) := by decide +kernel
theorem dX6_isRight_70 : decode cX6_isRight 70 = .ok (.getfield 213, 3) := by decide +kernel
theorem dX6_isRight_73 : decode cX6_isRight 73 = .ok (.ireturn, 1) := by decide +kernel
theorem dX6_whyNotAll_0 : decode cX6_whyNotAll 0 = .ok (.iconst 0, 1) := by decide +kernel
theorem dX6_whyNotAll_1 : decode cX6_whyNotAll 1 = .ok (.istore_n 1, 1) := by decide +kernel
theorem dX6_whyNotAll_2 : decode cX6_whyNotAll 2 = .ok (.iload_n 1, 1) := by decide +kernel
theorem dX6_whyNotAll_3 : decode cX6_whyNotAll 3 = .ok (.aload_n 0, 1) := by decide +kernel
theorem dX6_whyNotAll_4 : decode cX6_whyNotAll 4 = .ok (.getfield 223, 3) := by decide +kernel
theorem dX6_whyNotAll_7 : decode cX6_whyNotAll 7 = .ok (.if_icmp .ge 96, 3) := by decide +kernel
theorem dX6_whyNotAll_10 : decode cX6_whyNotAll 10 = .ok (.aload_n 0, 1) := by decide +kernel
theorem dX6_whyNotAll_11 : decode cX6_whyNotAll 11 = .ok (.getfield 43, 3) := by decide +kernel
theorem dX6_whyNotAll_14 : decode cX6_whyNotAll 14 = .ok (.iconst 4, 1) := by decide +kernel
theorem dX6_whyNotAll_15 : decode cX6_whyNotAll 15 = .ok (.iload_n 1, 1) := by decide +kernel
theorem dX6_whyNotAll_16 : decode cX6_whyNotAll 16 = .ok (.imul, 1) := by decide +kernel
theorem dX6_whyNotAll_17 : decode cX6_whyNotAll 17 = .ok (.iaload, 1) := by decide +kernel
theorem dX6_whyNotAll_18 : decode cX6_whyNotAll 18 = .ok (.istore_n 2, 1) := by decide +kernel
theorem dX6_whyNotAll_19 : decode cX6_whyNotAll 19 = .ok (.aload_n 0, 1) := by decide +kernel
theorem dX6_whyNotAll_20 : decode cX6_whyNotAll 20 = .ok (.iload_n 2, 1) := by decide +kernel
theorem dX6_whyNotAll_21 : decode cX6_whyNotAll 21 = .ok (.invokevirtual 54, 3) := by decide +kernel
theorem dX6_whyNotAll_24 : decode cX6_whyNotAll 24 = .ok (.ifCond .eq 20, 3) := by decide +kernel
theorem dX6_whyNotAll_27 : decode cX6_whyNotAll 27 = .ok (.aload_n 0, 1) := by decide +kernel
theorem dX6_whyNotAll_28 : decode cX6_whyNotAll 28 = .ok (.aload_n 0, 1) := by decide +kernel
theorem dX6_whyNotAll_29 : decode cX6_whyNotAll 29 = .ok (.getfield 43, 3) := by decide +kernel
theorem dX6_whyNotAll_32 : decode cX6_whyNotAll 32 = .ok (.iconst 4, 1) := by decide +kernel
theorem dX6_whyNotAll_33 : decode cX6_whyNotAll 33 = .ok (.iload_n 1, 1) := by decide +kernel
theorem dX6_whyNotAll_34 : decode cX6_whyNotAll 34 = .ok (.imul, 1) := by decide +kernel
theorem dX6_whyNotAll_35 : decode cX6_whyNotAll 35 = .ok (.iconst 1, 1) := by decide +kernel
theorem dX6_whyNotAll_36 : decode cX6_whyNotAll 36 = .ok (.iadd, 1) := by decide +kernel
theorem dX6_whyNotAll_37 : decode cX6_whyNotAll 37 = .ok (.iaload, 1) := by decide +kernel
theorem dX6_whyNotAll_38 : decode cX6_whyNotAll 38 = .ok (.invokevirtual 54, 3) := by decide +kernel
theorem dX6_whyNotAll_41 : decode cX6_whyNotAll 41 = .ok (.ifCond .ne 5, 3) := by decide +kernel
theorem dX6_whyNotAll_44 : decode cX6_whyNotAll 44 = .ok (.iconst (-1), 1) := by decide +kernel
theorem dX6_whyNotAll_45 : decode cX6_whyNotAll 45 = .ok (.ireturn, 1) := by decide +kernel
theorem dX6_whyNotAll_46 : decode cX6_whyNotAll 46 = .ok (.aload_n 0, 1) := by decide +kernel
theorem dX6_whyNotAll_47 : decode cX6_whyNotAll 47 = .ok (.iload_n 2, 1) := by decide +kernel
theorem dX6_whyNotAll_48 : decode cX6_whyNotAll 48 = .ok (.iconst 3, 1) := by decide +kernel
theorem dX6_whyNotAll_49 : decode cX6_whyNotAll 49 = .ok (.invokevirtual 62, 3) := by decide +kernel
theorem dX6_whyNotAll_52 : decode cX6_whyNotAll 52 = .ok (.istore_n 3, 1) := by decide +kernel
theorem dX6_whyNotAll_53 : decode cX6_whyNotAll 53 = .ok (.iconst 0, 1) := by decide +kernel
theorem dX6_whyNotAll_54 : decode cX6_whyNotAll 54 = .ok (.istore 4, 2) := by decide +kernel
theorem dX6_whyNotAll_56 : decode cX6_whyNotAll 56 = .ok (.iload 4, 2) := by decide +kernel
theorem dX6_whyNotAll_58 : decode cX6_whyNotAll 58 = .ok (.iload_n 1, 1) := by decide +kernel
theorem dX6_whyNotAll_59 : decode cX6_whyNotAll 59 = .ok (.if_icmp .ge 30, 3) := by decide +kernel
theorem dX6_whyNotAll_62 : decode cX6_whyNotAll 62 = .ok (.iload_n 3, 1) := by decide +kernel
theorem dX6_whyNotAll_63 : decode cX6_whyNotAll 63 = .ok (.aload_n 0, 1) := by decide +kernel
theorem dX6_whyNotAll_64 : decode cX6_whyNotAll 64 = .ok (.getfield 43, 3) := by decide +kernel
theorem dX6_whyNotAll_67 : decode cX6_whyNotAll 67 = .ok (.iconst 4, 1) := by decide +kernel
theorem dX6_whyNotAll_68 : decode cX6_whyNotAll 68 = .ok (.iload 4, 2) := by decide +kernel
theorem dX6_whyNotAll_70 : decode cX6_whyNotAll 70 = .ok (.imul, 1) := by decide +kernel
theorem dX6_whyNotAll_71 : decode cX6_whyNotAll 71 = .ok (.iaload, 1) := by decide +kernel
theorem dX6_whyNotAll_72 : decode cX6_whyNotAll 72 = .ok (.iload_n 2, 1) := by decide +kernel
theorem dX6_whyNotAll_73 : decode cX6_whyNotAll 73 = .ok (.if_icmp .ne 7, 3) := by decide +kernel
theorem dX6_whyNotAll_76 : decode cX6_whyNotAll 76 = .ok (.iconst 1, 1) := by decide +kernel
theorem dX6_whyNotAll_77 : decode cX6_whyNotAll 77 = .ok (.goto 4, 3) := by decide +kernel
theorem dX6_whyNotAll_80 : decode cX6_whyNotAll 80 = .ok (.iconst 0, 1) := by decide +kernel
theorem dX6_whyNotAll_81 : decode cX6_whyNotAll 81 = .ok (.iadd, 1) := by decide +kernel
theorem dX6_whyNotAll_82 : decode cX6_whyNotAll 82 = .ok (.istore_n 3, 1) := by decide +kernel
theorem dX6_whyNotAll_83 : decode cX6_whyNotAll 83 = .ok (.iinc 4 1, 3) := by decide +kernel
theorem dX6_whyNotAll_86 : decode cX6_whyNotAll 86 = .ok (.goto (-30), 3) := by decide +kernel
theorem dX6_whyNotAll_89 : decode cX6_whyNotAll 89 = .ok (.iload_n 3, 1) := by decide +kernel
theorem dX6_whyNotAll_90 : decode cX6_whyNotAll 90 = .ok (.iconst 3, 1) := by decide +kernel
theorem dX6_whyNotAll_91 : decode cX6_whyNotAll 91 = .ok (.if_icmp .lt 6, 3) := by decide +kernel
theorem dX6_whyNotAll_94 : decode cX6_whyNotAll 94 = .ok (.bipush (-3), 2) := by decide +kernel
theorem dX6_whyNotAll_96 : decode cX6_whyNotAll 96 = .ok (.ireturn, 1) := by decide +kernel
theorem dX6_whyNotAll_97 : decode cX6_whyNotAll 97 = .ok (.iinc 1 1, 3) := by decide +kernel
theorem dX6_whyNotAll_100 : decode cX6_whyNotAll 100 = .ok (.goto (-98), 3) := by decide +kernel
theorem dX6_whyNotAll_103 : decode cX6_whyNotAll 103 = .ok (.iconst 0, 1) := by decide +kernel
theorem dX6_whyNotAll_104 : decode cX6_whyNotAll 104 = .ok (.ireturn, 1) := by decide +kernel
theorem dX6_addChoices_0 : decode cX6_addChoices 0 = .ok (.aload_n 0, 1) := by decide +kernel
theorem dX6_addChoices_1 : decode cX6_addChoices 1 = .ok (.invokevirtual 235, 3) := by decide +kernel
theorem dX6_addChoices_4 : decode cX6_addChoices 4 = .ok (.ifCond .ne 11, 3) := by decide +kernel
theorem dX6_addChoices_7 : decode cX6_addChoices 7 = .ok (.bipush (-100), 2) := by decide +kernel
theorem dX6_addChoices_9 : decode cX6_addChoices 9 = .ok (.aload_n 0, 1) := by decide +kernel
theorem dX6_addChoices_10 : decode cX6_addChoices 10 = .ok (.getfield 210, 3) := by decide +kernel
theorem dX6_addChoices_13 : decode cX6_addChoices 13 = .ok (.isub, 1) := by decide +kernel
theorem dX6_addChoices_14 : decode cX6_addChoices 14 = .ok (.ireturn, 1) := by decide +kernel
theorem dX6_addChoices_15 : decode cX6_addChoices 15 = .ok (.aload_n 0, 1) := by decide +kernel
theorem dX6_addChoices_16 : decode cX6_addChoices 16 = .ok (.invokevirtual 238, 3) := by decide +kernel
theorem dX6_addChoices_19 : decode cX6_addChoices 19 = .ok (.istore_n 1, 1) := by decide +kernel
theorem dX6_addChoices_20 : decode cX6_addChoices 20 = .ok (.iload_n 1, 1) := by decide +kernel
theorem dX6_addChoices_21 : decode cX6_addChoices 21 = .ok (.ifCond .ge 5, 3) := by decide +kernel
theorem dX6_addChoices_24 : decode cX6_addChoices 24 = .ok (.iload_n 1, 1) := by decide +kernel
theorem dX6_addChoices_25 : decode cX6_addChoices 25 = .ok (.ireturn, 1) := by decide +kernel
theorem dX6_addChoices_26 : decode cX6_addChoices 26 = .ok (.aload_n 0, 1) := by decide +kernel
theorem dX6_addChoices_27 : decode cX6_addChoices 27 = .ok (.invokevirtual 114, 3) := by decide +kernel
theorem dX6_addChoices_30 : decode cX6_addChoices 30 = .ok (.iconst 0, 1) := by decide +kernel
theorem dX6_addChoices_31 : decode cX6_addChoices 31 = .ok (.istore_n 2, 1) := by decide +kernel
theorem dX6_addChoices_32 : decode cX6_addChoices 32 = .ok (.iload_n 2, 1) := by decide +kernel
theorem dX6_addChoices_33 : decode cX6_addChoices 33 = .ok (.aload_n 0, 1) := by decide +kernel
theorem dX6_addChoices_34 : decode cX6_addChoices 34 = .ok (.getfield 223, 3) := by decide +kernel
theorem dX6_addChoices_37 : decode cX6_addChoices 37 = .ok (.if_icmp .ge 52, 3) := by decide +kernel
theorem dX6_addChoices_40 : decode cX6_addChoices 40 = .ok (.aload_n 0, 1) := by decide +kernel
theorem dX6_addChoices_41 : decode cX6_addChoices 41 = .ok (.aload_n 0, 1) := by decide +kernel
theorem dX6_addChoices_42 : decode cX6_addChoices 42 = .ok (.getfield 43, 3) := by decide +kernel
theorem dX6_addChoices_45 : decode cX6_addChoices 45 = .ok (.iconst 4, 1) := by decide +kernel
theorem dX6_addChoices_46 : decode cX6_addChoices 46 = .ok (.iload_n 2, 1) := by decide +kernel
theorem dX6_addChoices_47 : decode cX6_addChoices 47 = .ok (.imul, 1) := by decide +kernel
theorem dX6_addChoices_48 : decode cX6_addChoices 48 = .ok (.iaload, 1) := by decide +kernel
theorem dX6_addChoices_49 : decode cX6_addChoices 49 = .ok (.aload_n 0, 1) := by decide +kernel
theorem dX6_addChoices_50 : decode cX6_addChoices 50 = .ok (.getfield 43, 3) := by decide +kernel
theorem dX6_addChoices_53 : decode cX6_addChoices 53 = .ok (.iconst 4, 1) := by decide +kernel
theorem dX6_addChoices_54 : decode cX6_addChoices 54 = .ok (.iload_n 2, 1) := by decide +kernel
theorem dX6_addChoices_55 : decode cX6_addChoices 55 = .ok (.imul, 1) := by decide +kernel
theorem dX6_addChoices_56 : decode cX6_addChoices 56 = .ok (.iconst 1, 1) := by decide +kernel
theorem dX6_addChoices_57 : decode cX6_addChoices 57 = .ok (.iadd, 1) := by decide +kernel
theorem dX6_addChoices_58 : decode cX6_addChoices 58 = .ok (.iaload, 1) := by decide +kernel
theorem dX6_addChoices_59 : decode cX6_addChoices 59 = .ok (.aload_n 0, 1) := by decide +kernel
theorem dX6_addChoices_60 : decode cX6_addChoices 60 = .ok (.getfield 43, 3) := by decide +kernel
theorem dX6_addChoices_63 : decode cX6_addChoices 63 = .ok (.iconst 4, 1) := by decide +kernel
theorem dX6_addChoices_64 : decode cX6_addChoices 64 = .ok (.iload_n 2, 1) := by decide +kernel
theorem dX6_addChoices_65 : decode cX6_addChoices 65 = .ok (.imul, 1) := by decide +kernel
theorem dX6_addChoices_66 : decode cX6_addChoices 66 = .ok (.iconst 2, 1) := by decide +kernel
theorem dX6_addChoices_67 : decode cX6_addChoices 67 = .ok (.iadd, 1) := by decide +kernel
theorem dX6_addChoices_68 : decode cX6_addChoices 68 = .ok (.iaload, 1) := by decide +kernel
theorem dX6_addChoices_69 : decode cX6_addChoices 69 = .ok (.aload_n 0, 1) := by decide +kernel
theorem dX6_addChoices_70 : decode cX6_addChoices 70 = .ok (.getfield 43, 3) := by decide +kernel
theorem dX6_addChoices_73 : decode cX6_addChoices 73 = .ok (.iconst 4, 1) := by decide +kernel
theorem dX6_addChoices_74 : decode cX6_addChoices 74 = .ok (.iload_n 2, 1) := by decide +kernel
theorem dX6_addChoices_75 : decode cX6_addChoices 75 = .ok (.imul, 1) := by decide +kernel
theorem dX6_addChoices_76 : decode cX6_addChoices 76 = .ok (.iconst 3, 1) := by decide +kernel
theorem dX6_addChoices_77 : decode cX6_addChoices 77 = .ok (.iadd, 1) := by decide +kernel
theorem dX6_addChoices_78 : decode cX6_addChoices 78 = .ok (.iaload, 1) := by decide +kernel
theorem dX6_addChoices_79 : decode cX6_addChoices 79 = .ok (.invokevirtual 120, 3) := by decide +kernel
theorem dX6_addChoices_82 : decode cX6_addChoices 82 = .ok (.istore_n 3, 1) := by decide +kernel
theorem dX6_addChoices_83 : decode cX6_addChoices 83 = .ok (.iinc 2 1, 3) := by decide +kernel
theorem dX6_addChoices_86 : decode cX6_addChoices 86 = .ok (.goto (-54), 3) := by decide +kernel
theorem dX6_addChoices_89 : decode cX6_addChoices 89 = .ok (.aload_n 0, 1) := by decide +kernel
theorem dX6_addChoices_90 : decode cX6_addChoices 90 = .ok (.getfield 223, 3) := by decide +kernel
theorem dX6_addChoices_93 : decode cX6_addChoices 93 = .ok (.ireturn, 1) := by decide +kernel
theorem dL_law_0 : decode cL_law 0 = .ok (.new 7, 3) := by decide +kernel
theorem dL_law_3 : decode cL_law 3 = .ok (.dup, 1) := by decide +kernel
theorem dL_law_4 : decode cL_law 4 = .ok (.invokespecial 9, 3) := by decide +kernel
theorem dL_law_7 : decode cL_law 7 = .ok (.astore_n 1, 1) := by decide +kernel
theorem dL_law_8 : decode cL_law 8 = .ok (.new 10, 3) := by decide +kernel
theorem dL_law_11 : decode cL_law 11 = .ok (.dup, 1) := by decide +kernel
theorem dL_law_12 : decode cL_law 12 = .ok (.invokespecial 12, 3) := by decide +kernel
theorem dL_law_15 : decode cL_law 15 = .ok (.astore_n 2, 1) := by decide +kernel
theorem dL_law_16 : decode cL_law 16 = .ok (.iconst 0, 1) := by decide +kernel
theorem dL_law_17 : decode cL_law 17 = .ok (.istore_n 3, 1) := by decide +kernel
theorem dL_law_18 : decode cL_law 18 = .ok (.iload_n 3, 1) := by decide +kernel
theorem dL_law_19 : decode cL_law 19 = .ok (.aload_n 0, 1) := by decide +kernel
theorem dL_law_20 : decode cL_law 20 = .ok (.arraylength, 1) := by decide +kernel
theorem dL_law_21 : decode cL_law 21 = .ok (.iconst 5, 1) := by decide +kernel
theorem dL_law_22 : decode cL_law 22 = .ok (.isub, 1) := by decide +kernel
theorem dL_law_23 : decode cL_law 23 = .ok (.if_icmp .gt 717, 3) := by decide +kernel
theorem dL_law_26 : decode cL_law 26 = .ok (.aload_n 0, 1) := by decide +kernel
theorem dL_law_27 : decode cL_law 27 = .ok (.iload_n 3, 1) := by decide +kernel
theorem dL_law_28 : decode cL_law 28 = .ok (.iaload, 1) := by decide +kernel
theorem dL_law_29 : decode cL_law 29 = .ok (.bipush 31, 2) := by decide +kernel
theorem dL_law_31 : decode cL_law 31 = .ok (.iand, 1) := by decide +kernel
theorem dL_law_32 : decode cL_law 32 = .ok (.tableswitch 702 0 21 #[104, 147, 180, 233, 246, 279, 312, 335, 368, 391, 414, 439, 452, 465, 478, 491, 524, 567, 600, 633, 666, 679], 104) := by decide +kernel
theorem dL_law_136 : decode cL_law 136 = .ok (.aload_n 1, 1) := by decide +kernel
theorem dL_law_137 : decode cL_law 137 = .ok (.aload_n 0, 1) := by decide +kernel
theorem dL_law_138 : decode cL_law 138 = .ok (.iload_n 3, 1) := by decide +kernel
theorem dL_law_139 : decode cL_law 139 = .ok (.iconst 1, 1) := by decide +kernel
theorem dL_law_140 : decode cL_law 140 = .ok (.iadd, 1) := by decide +kernel
theorem dL_law_141 : decode cL_law 141 = .ok (.iaload, 1) := by decide +kernel
theorem dL_law_142 : decode cL_law 142 = .ok (.aload_n 0, 1) := by decide +kernel
theorem dL_law_143 : decode cL_law 143 = .ok (.iload_n 3, 1) := by decide +kernel
theorem dL_law_144 : decode cL_law 144 = .ok (.iconst 2, 1) := by decide +kernel
theorem dL_law_145 : decode cL_law 145 = .ok (.iadd, 1) := by decide +kernel
theorem dL_law_146 : decode cL_law 146 = .ok (.iaload, 1) := by decide +kernel
theorem dL_law_147 : decode cL_law 147 = .ok (.aload_n 0, 1) := by decide +kernel
theorem dL_law_148 : decode cL_law 148 = .ok (.iload_n 3, 1) := by decide +kernel
theorem dL_law_149 : decode cL_law 149 = .ok (.iconst 3, 1) := by decide +kernel
theorem dL_law_150 : decode cL_law 150 = .ok (.iadd, 1) := by decide +kernel
theorem dL_law_151 : decode cL_law 151 = .ok (.iaload, 1) := by decide +kernel
theorem dL_law_152 : decode cL_law 152 = .ok (.invokevirtual 13, 3) := by decide +kernel
theorem dL_law_155 : decode cL_law 155 = .ok (.aload_n 2, 1) := by decide +kernel
theorem dL_law_156 : decode cL_law 156 = .ok (.aload_n 0, 1) := by decide +kernel
theorem dL_law_157 : decode cL_law 157 = .ok (.iload_n 3, 1) := by decide +kernel
theorem dL_law_158 : decode cL_law 158 = .ok (.iconst 1, 1) := by decide +kernel
theorem dL_law_159 : decode cL_law 159 = .ok (.iadd, 1) := by decide +kernel
theorem dL_law_160 : decode cL_law 160 = .ok (.iaload, 1) := by decide +kernel
theorem dL_law_161 : decode cL_law 161 = .ok (.aload_n 0, 1) := by decide +kernel
theorem dL_law_162 : decode cL_law 162 = .ok (.iload_n 3, 1) := by decide +kernel
theorem dL_law_163 : decode cL_law 163 = .ok (.iconst 2, 1) := by decide +kernel
theorem dL_law_164 : decode cL_law 164 = .ok (.iadd, 1) := by decide +kernel
theorem dL_law_165 : decode cL_law 165 = .ok (.iaload, 1) := by decide +kernel
theorem dL_law_166 : decode cL_law 166 = .ok (.aload_n 0, 1) := by decide +kernel
theorem dL_law_167 : decode cL_law 167 = .ok (.iload_n 3, 1) := by decide +kernel
theorem dL_law_168 : decode cL_law 168 = .ok (.iconst 3, 1) := by decide +kernel
theorem dL_law_169 : decode cL_law 169 = .ok (.iadd, 1) := by decide +kernel
theorem dL_law_170 : decode cL_law 170 = .ok (.iaload, 1) := by decide +kernel
theorem dL_law_171 : decode cL_law 171 = .ok (.invokevirtual 17, 3) := by decide +kernel
theorem dL_law_174 : decode cL_law 174 = .ok (.if_icmp .eq 560, 3) := by decide +kernel
theorem dL_law_177 : decode cL_law 177 = .ok (.iconst 0, 1) := by decide +kernel
theorem dL_law_178 : decode cL_law 178 = .ok (.ireturn, 1) := by decide +kernel
theorem dL_law_179 : decode cL_law 179 = .ok (.aload_n 1, 1) := by decide +kernel
theorem dL_law_180 : decode cL_law 180 = .ok (.aload_n 0, 1) := by decide +kernel
theorem dL_law_181 : decode cL_law 181 = .ok (.iload_n 3, 1) := by decide +kernel
theorem dL_law_182 : decode cL_law 182 = .ok (.iconst 1, 1) := by decide +kernel
theorem dL_law_183 : decode cL_law 183 = .ok (.iadd, 1) := by decide +kernel
theorem dL_law_184 : decode cL_law 184 = .ok (.iaload, 1) := by decide +kernel
theorem dL_law_185 : decode cL_law 185 = .ok (.aload_n 0, 1) := by decide +kernel
theorem dL_law_186 : decode cL_law 186 = .ok (.iload_n 3, 1) := by decide +kernel
theorem dL_law_187 : decode cL_law 187 = .ok (.iconst 2, 1) := by decide +kernel
theorem dL_law_188 : decode cL_law 188 = .ok (.iadd, 1) := by decide +kernel
theorem dL_law_189 : decode cL_law 189 = .ok (.iaload, 1) := by decide +kernel
theorem dL_law_190 : decode cL_law 190 = .ok (.invokevirtual 18, 3) := by decide +kernel
theorem dL_law_193 : decode cL_law 193 = .ok (.aload_n 2, 1) := by decide +kernel
theorem dL_law_194 : decode cL_law 194 = .ok (.aload_n 0, 1) := by decide +kernel
theorem dL_law_195 : decode cL_law 195 = .ok (.iload_n 3, 1) := by decide +kernel
theorem dL_law_196 : decode cL_law 196 = .ok (.iconst 1, 1) := by decide +kernel
theorem dL_law_197 : decode cL_law 197 = .ok (.iadd, 1) := by decide +kernel
theorem dL_law_198 : decode cL_law 198 = .ok (.iaload, 1) := by decide +kernel
theorem dL_law_199 : decode cL_law 199 = .ok (.aload_n 0, 1) := by decide +kernel
theorem dL_law_200 : decode cL_law 200 = .ok (.iload_n 3, 1) := by decide +kernel
theorem dL_law_201 : decode cL_law 201 = .ok (.iconst 2, 1) := by decide +kernel
theorem dL_law_202 : decode cL_law 202 = .ok (.iadd, 1) := by decide +kernel
theorem dL_law_203 : decode cL_law 203 = .ok (.iaload, 1) := by decide +kernel
theorem dL_law_204 : decode cL_law 204 = .ok (.invokevirtual 22, 3) := by decide +kernel
theorem dL_law_207 : decode cL_law 207 = .ok (.if_icmp .eq 527, 3) := by decide +kernel
theorem dL_law_210 : decode cL_law 210 = .ok (.iconst 0, 1) := by decide +kernel
theorem dL_law_211 : decode cL_law 211 = .ok (.ireturn, 1) := by decide +kernel
theorem dL_law_212 : decode cL_law 212 = .ok (.aload_n 1, 1) := by decide +kernel
theorem dL_law_213 : decode cL_law 213 = .ok (.aload_n 0, 1) := by decide +kernel
theorem dL_law_214 : decode cL_law 214 = .ok (.iload_n 3, 1) := by decide +kernel
theorem dL_law_215 : decode cL_law 215 = .ok (.iconst 1, 1) := by decide +kernel
theorem dL_law_216 : decode cL_law 216 = .ok (.iadd, 1) := by decide +kernel
theorem dL_law_217 : decode cL_law 217 = .ok (.iaload, 1) := by decide +kernel
theorem dL_law_218 : decode cL_law 218 = .ok (.aload_n 0, 1) := by decide +kernel
theorem dL_law_219 : decode cL_law 219 = .ok (.iload_n 3, 1) := by decide +kernel
theorem dL_law_220 : decode cL_law 220 = .ok (.iconst 2, 1) := by decide +kernel
theorem dL_law_221 : decode cL_law 221 = .ok (.iadd, 1) := by decide +kernel
theorem dL_law_222 : decode cL_law 222 = .ok (.iaload, 1) := by decide +kernel
theorem dL_law_223 : decode cL_law 223 = .ok (.aload_n 0, 1) := by decide +kernel
theorem dL_law_224 : decode cL_law 224 = .ok (.iload_n 3, 1) := by decide +kernel
theorem dL_law_225 : decode cL_law 225 = .ok (.iconst 3, 1) := by decide +kernel
theorem dL_law_226 : decode cL_law 226 = .ok (.iadd, 1) := by decide +kernel
theorem dL_law_227 : decode cL_law 227 = .ok (.iaload, 1) := by decide +kernel
theorem dL_law_228 : decode cL_law 228 = .ok (.aload_n 0, 1) := by decide +kernel
theorem dL_law_229 : decode cL_law 229 = .ok (.iload_n 3, 1) := by decide +kernel
theorem dL_law_230 : decode cL_law 230 = .ok (.iconst 4, 1) := by decide +kernel
theorem dL_law_231 : decode cL_law 231 = .ok (.iadd, 1) := by decide +kernel
theorem dL_law_232 : decode cL_law 232 = .ok (.iaload, 1) := by decide +kernel
theorem dL_law_233 : decode cL_law 233 = .ok (.invokevirtual 23, 3) := by decide +kernel
theorem dL_law_236 : decode cL_law 236 = .ok (.aload_n 2, 1) := by decide +kernel
theorem dL_law_237 : decode cL_law 237 = .ok (.aload_n 0, 1) := by decide +kernel
theorem dL_law_238 : decode cL_law 238 = .ok (.iload_n 3, 1) := by decide +kernel
theorem dL_law_239 : decode cL_law 239 = .ok (.iconst 1, 1) := by decide +kernel
theorem dL_law_240 : decode cL_law 240 = .ok (.iadd, 1) := by decide +kernel
theorem dL_law_241 : decode cL_law 241 = .ok (.iaload, 1) := by decide +kernel
theorem dL_law_242 : decode cL_law 242 = .ok (.aload_n 0, 1) := by decide +kernel
theorem dL_law_243 : decode cL_law 243 = .ok (.iload_n 3, 1) := by decide +kernel
theorem dL_law_244 : decode cL_law 244 = .ok (.iconst 2, 1) := by decide +kernel
theorem dL_law_245 : decode cL_law 245 = .ok (.iadd, 1) := by decide +kernel
theorem dL_law_246 : decode cL_law 246 = .ok (.iaload, 1) := by decide +kernel
theorem dL_law_247 : decode cL_law 247 = .ok (.aload_n 0, 1) := by decide +kernel
theorem dL_law_248 : decode cL_law 248 = .ok (.iload_n 3, 1) := by decide +kernel
theorem dL_law_249 : decode cL_law 249 = .ok (.iconst 3, 1) := by decide +kernel
theorem dL_law_250 : decode cL_law 250 = .ok (.iadd, 1) := by decide +kernel
theorem dL_law_251 : decode cL_law 251 = .ok (.iaload, 1) := by decide +kernel
theorem dL_law_252 : decode cL_law 252 = .ok (.aload_n 0, 1) := by decide +kernel
theorem dL_law_253 : decode cL_law 253 = .ok (.iload_n 3, 1) := by decide +kernel
theorem dL_law_254 : decode cL_law 254 = .ok (.iconst 4, 1) := by decide +kernel
theorem dL_law_255 : decode cL_law 255 = .ok (.iadd, 1) := by decide +kernel
theorem dL_law_256 : decode cL_law 256 = .ok (.iaload, 1) := by decide +kernel
theorem dL_law_257 : decode cL_law 257 = .ok (.invokevirtual 27, 3) := by decide +kernel
theorem dL_law_260 : decode cL_law 260 = .ok (.if_icmp .eq 474, 3) := by decide +kernel
theorem dL_law_263 : decode cL_law 263 = .ok (.iconst 0, 1) := by decide +kernel
theorem dL_law_264 : decode cL_law 264 = .ok (.ireturn, 1) := by decide +kernel
theorem dL_law_265 : decode cL_law 265 = .ok (.aload_n 1, 1) := by decide +kernel
theorem dL_law_266 : decode cL_law 266 = .ok (.invokevirtual 28, 3) := by decide +kernel
theorem dL_law_269 : decode cL_law 269 = .ok (.aload_n 2, 1) := by decide +kernel
theorem dL_law_270 : decode cL_law 270 = .ok (.invokevirtual 32, 3) := by decide +kernel
theorem dL_law_273 : decode cL_law 273 = .ok (.if_icmp .eq 461, 3) := by decide +kernel
theorem dL_law_276 : decode cL_law 276 = .ok (.iconst 0, 1) := by decide +kernel
theorem dL_law_277 : decode cL_law 277 = .ok (.ireturn, 1) := by decide +kernel
theorem dL_law_278 : decode cL_law 278 = .ok (.aload_n 1, 1) := by decide +kernel
theorem dL_law_279 : decode cL_law 279 = .ok (.aload_n 0, 1) := by decide +kernel
theorem dL_law_280 : decode cL_law 280 = .ok (.iload_n 3, 1) := by decide +kernel
theorem dL_law_281 : decode cL_law 281 = .ok (.iconst 1, 1) := by decide +kernel
theorem dL_law_282 : decode cL_law 282 = .ok (.iadd, 1) := by decide +kernel
theorem dL_law_283 : decode cL_law 283 = .ok (.iaload, 1) := by decide +kernel
theorem dL_law_284 : decode cL_law 284 = .ok (.aload_n 0, 1) := by decide +kernel
theorem dL_law_285 : decode cL_law 285 = .ok (.iload_n 3, 1) := by decide +kernel
theorem dL_law_286 : decode cL_law 286 = .ok (.iconst 2, 1) := by decide +kernel
theorem dL_law_287 : decode cL_law 287 = .ok (.iadd, 1) := by decide +kernel
theorem dL_law_288 : decode cL_law 288 = .ok (.iaload, 1) := by decide +kernel
theorem dL_law_289 : decode cL_law 289 = .ok (.invokevirtual 33, 3) := by decide +kernel
theorem dL_law_292 : decode cL_law 292 = .ok (.aload_n 2, 1) := by decide +kernel
theorem dL_law_293 : decode cL_law 293 = .ok (.aload_n 0, 1) := by decide +kernel
theorem dL_law_294 : decode cL_law 294 = .ok (.iload_n 3, 1) := by decide +kernel
theorem dL_law_295 : decode cL_law 295 = .ok (.iconst 1, 1) := by decide +kernel
theorem dL_law_296 : decode cL_law 296 = .ok (.iadd, 1) := by decide +kernel
theorem dL_law_297 : decode cL_law 297 = .ok (.iaload, 1) := by decide +kernel
theorem dL_law_298 : decode cL_law 298 = .ok (.aload_n 0, 1) := by decide +kernel
theorem dL_law_299 : decode cL_law 299 = .ok (.iload_n 3, 1) := by decide +kernel
theorem dL_law_300 : decode cL_law 300 = .ok (.iconst 2, 1) := by decide +kernel
theorem dL_law_301 : decode cL_law 301 = .ok (.iadd, 1) := by decide +kernel
theorem dL_law_302 : decode cL_law 302 = .ok (.iaload, 1) := by decide +kernel
theorem dL_law_303 : decode cL_law 303 = .ok (.invokevirtual 36, 3) := by decide +kernel
theorem dL_law_306 : decode cL_law 306 = .ok (.if_icmp .eq 428, 3) := by decide +kernel
theorem dL_law_309 : decode cL_law 309 = .ok (.iconst 0, 1) := by decide +kernel
theorem dL_law_310 : decode cL_law 310 = .ok (.ireturn, 1) := by decide +kernel
theorem dL_law_311 : decode cL_law 311 = .ok (.aload_n 1, 1) := by decide +kernel
theorem dL_law_312 : decode cL_law 312 = .ok (.aload_n 0, 1) := by decide +kernel
theorem dL_law_313 : decode cL_law 313 = .ok (.iload_n 3, 1) := by decide +kernel
theorem dL_law_314 : decode cL_law 314 = .ok (.iconst 1, 1) := by decide +kernel
theorem dL_law_315 : decode cL_law 315 = .ok (.iadd, 1) := by decide +kernel
theorem dL_law_316 : decode cL_law 316 = .ok (.iaload, 1) := by decide +kernel
theorem dL_law_317 : decode cL_law 317 = .ok (.aload_n 0, 1) := by decide +kernel
theorem dL_law_318 : decode cL_law 318 = .ok (.iload_n 3, 1) := by decide +kernel
theorem dL_law_319 : decode cL_law 319 = .ok (.iconst 2, 1) := by decide +kernel
theorem dL_law_320 : decode cL_law 320 = .ok (.iadd, 1) := by decide +kernel
theorem dL_law_321 : decode cL_law 321 = .ok (.iaload, 1) := by decide +kernel
theorem dL_law_322 : decode cL_law 322 = .ok (.invokevirtual 37, 3) := by decide +kernel
theorem dL_law_325 : decode cL_law 325 = .ok (.aload_n 2, 1) := by decide +kernel
theorem dL_law_326 : decode cL_law 326 = .ok (.aload_n 0, 1) := by decide +kernel
theorem dL_law_327 : decode cL_law 327 = .ok (.iload_n 3, 1) := by decide +kernel
theorem dL_law_328 : decode cL_law 328 = .ok (.iconst 1, 1) := by decide +kernel
theorem dL_law_329 : decode cL_law 329 = .ok (.iadd, 1) := by decide +kernel
theorem dL_law_330 : decode cL_law 330 = .ok (.iaload, 1) := by decide +kernel
theorem dL_law_331 : decode cL_law 331 = .ok (.aload_n 0, 1) := by decide +kernel
theorem dL_law_332 : decode cL_law 332 = .ok (.iload_n 3, 1) := by decide +kernel
theorem dL_law_333 : decode cL_law 333 = .ok (.iconst 2, 1) := by decide +kernel
theorem dL_law_334 : decode cL_law 334 = .ok (.iadd, 1) := by decide +kernel
theorem dL_law_335 : decode cL_law 335 = .ok (.iaload, 1) := by decide +kernel
theorem dL_law_336 : decode cL_law 336 = .ok (.invokevirtual 40, 3) := by decide +kernel
theorem dL_law_339 : decode cL_law 339 = .ok (.if_icmp .eq 395, 3) := by decide +kernel
theorem dL_law_342 : decode cL_law 342 = .ok (.iconst 0, 1) := by decide +kernel
theorem dL_law_343 : decode cL_law 343 = .ok (.ireturn, 1) := by decide +kernel
theorem dL_law_344 : decode cL_law 344 = .ok (.aload_n 1, 1) := by decide +kernel
theorem dL_law_345 : decode cL_law 345 = .ok (.aload_n 0, 1) := by decide +kernel
theorem dL_law_346 : decode cL_law 346 = .ok (.iload_n 3, 1) := by decide +kernel
theorem dL_law_347 : decode cL_law 347 = .ok (.iconst 1, 1) := by decide +kernel
theorem dL_law_348 : decode cL_law 348 = .ok (.iadd, 1) := by decide +kernel
theorem dL_law_349 : decode cL_law 349 = .ok (.iaload, 1) := by decide +kernel
theorem dL_law_350 : decode cL_law 350 = .ok (.invokevirtual 41, 3) := by decide +kernel
theorem dL_law_353 : decode cL_law 353 = .ok (.aload_n 2, 1) := by decide +kernel
theorem dL_law_354 : decode cL_law 354 = .ok (.aload_n 0, 1) := by decide +kernel
theorem dL_law_355 : decode cL_law 355 = .ok (.iload_n 3, 1) := by decide +kernel
theorem dL_law_356 : decode cL_law 356 = .ok (.iconst 1, 1) := by decide +kernel
theorem dL_law_357 : decode cL_law 357 = .ok (.iadd, 1) := by decide +kernel
theorem dL_law_358 : decode cL_law 358 = .ok (.iaload, 1) := by decide +kernel
theorem dL_law_359 : decode cL_law 359 = .ok (.invokevirtual 45, 3) := by decide +kernel
theorem dL_law_362 : decode cL_law 362 = .ok (.if_icmp .eq 372, 3) := by decide +kernel
theorem dL_law_365 : decode cL_law 365 = .ok (.iconst 0, 1) := by decide +kernel
theorem dL_law_366 : decode cL_law 366 = .ok (.ireturn, 1) := by decide +kernel
theorem dL_law_367 : decode cL_law 367 = .ok (.aload_n 1, 1) := by decide +kernel
theorem dL_law_368 : decode cL_law 368 = .ok (.aload_n 0, 1) := by decide +kernel
theorem dL_law_369 : decode cL_law 369 = .ok (.iload_n 3, 1) := by decide +kernel
theorem dL_law_370 : decode cL_law 370 = .ok (.iconst 1, 1) := by decide +kernel
theorem dL_law_371 : decode cL_law 371 = .ok (.iadd, 1) := by decide +kernel
theorem dL_law_372 : decode cL_law 372 = .ok (.iaload, 1) := by decide +kernel
theorem dL_law_373 : decode cL_law 373 = .ok (.aload_n 0, 1) := by decide +kernel
theorem dL_law_374 : decode cL_law 374 = .ok (.iload_n 3, 1) := by decide +kernel
theorem dL_law_375 : decode cL_law 375 = .ok (.iconst 2, 1) := by decide +kernel
theorem dL_law_376 : decode cL_law 376 = .ok (.iadd, 1) := by decide +kernel
theorem dL_law_377 : decode cL_law 377 = .ok (.iaload, 1) := by decide +kernel
theorem dL_law_378 : decode cL_law 378 = .ok (.invokevirtual 46, 3) := by decide +kernel
theorem dL_law_381 : decode cL_law 381 = .ok (.aload_n 2, 1) := by decide +kernel
theorem dL_law_382 : decode cL_law 382 = .ok (.aload_n 0, 1) := by decide +kernel
theorem dL_law_383 : decode cL_law 383 = .ok (.iload_n 3, 1) := by decide +kernel
theorem dL_law_384 : decode cL_law 384 = .ok (.iconst 1, 1) := by decide +kernel
theorem dL_law_385 : decode cL_law 385 = .ok (.iadd, 1) := by decide +kernel
theorem dL_law_386 : decode cL_law 386 = .ok (.iaload, 1) := by decide +kernel
theorem dL_law_387 : decode cL_law 387 = .ok (.aload_n 0, 1) := by decide +kernel
theorem dL_law_388 : decode cL_law 388 = .ok (.iload_n 3, 1) := by decide +kernel
theorem dL_law_389 : decode cL_law 389 = .ok (.iconst 2, 1) := by decide +kernel
theorem dL_law_390 : decode cL_law 390 = .ok (.iadd, 1) := by decide +kernel
theorem dL_law_391 : decode cL_law 391 = .ok (.iaload, 1) := by decide +kernel
theorem dL_law_392 : decode cL_law 392 = .ok (.invokevirtual 49, 3) := by decide +kernel
theorem dL_law_395 : decode cL_law 395 = .ok (.if_icmp .eq 339, 3) := by decide +kernel
theorem dL_law_398 : decode cL_law 398 = .ok (.iconst 0, 1) := by decide +kernel
theorem dL_law_399 : decode cL_law 399 = .ok (.ireturn, 1) := by decide +kernel
theorem dL_law_400 : decode cL_law 400 = .ok (.aload_n 1, 1) := by decide +kernel
theorem dL_law_401 : decode cL_law 401 = .ok (.aload_n 0, 1) := by decide +kernel
theorem dL_law_402 : decode cL_law 402 = .ok (.iload_n 3, 1) := by decide +kernel
theorem dL_law_403 : decode cL_law 403 = .ok (.iconst 1, 1) := by decide +kernel
theorem dL_law_404 : decode cL_law 404 = .ok (.iadd, 1) := by decide +kernel
theorem dL_law_405 : decode cL_law 405 = .ok (.iaload, 1) := by decide +kernel
theorem dL_law_406 : decode cL_law 406 = .ok (.invokevirtual 50, 3) := by decide +kernel
theorem dL_law_409 : decode cL_law 409 = .ok (.aload_n 2, 1) := by decide +kernel
theorem dL_law_410 : decode cL_law 410 = .ok (.aload_n 0, 1) := by decide +kernel
theorem dL_law_411 : decode cL_law 411 = .ok (.iload_n 3, 1) := by decide +kernel
theorem dL_law_412 : decode cL_law 412 = .ok (.iconst 1, 1) := by decide +kernel
theorem dL_law_413 : decode cL_law 413 = .ok (.iadd, 1) := by decide +kernel
theorem dL_law_414 : decode cL_law 414 = .ok (.iaload, 1) := by decide +kernel
theorem dL_law_415 : decode cL_law 415 = .ok (.invokevirtual 53, 3) := by decide +kernel
theorem dL_law_418 : decode cL_law 418 = .ok (.if_icmp .eq 316, 3) := by decide +kernel
theorem dL_law_421 : decode cL_law 421 = .ok (.iconst 0, 1) := by decide +kernel
theorem dL_law_422 : decode cL_law 422 = .ok (.ireturn, 1) := by decide +kernel
theorem dL_law_423 : decode cL_law 423 = .ok (.aload_n 1, 1) := by decide +kernel
theorem dL_law_424 : decode cL_law 424 = .ok (.aload_n 0, 1) := by decide +kernel
theorem dL_law_425 : decode cL_law 425 = .ok (.iload_n 3, 1) := by decide +kernel
theorem dL_law_426 : decode cL_law 426 = .ok (.iconst 1, 1) := by decide +kernel
theorem dL_law_427 : decode cL_law 427 = .ok (.iadd, 1) := by decide +kernel
theorem dL_law_428 : decode cL_law 428 = .ok (.iaload, 1) := by decide +kernel
theorem dL_law_429 : decode cL_law 429 = .ok (.invokevirtual 54, 3) := by decide +kernel
theorem dL_law_432 : decode cL_law 432 = .ok (.aload_n 2, 1) := by decide +kernel
theorem dL_law_433 : decode cL_law 433 = .ok (.aload_n 0, 1) := by decide +kernel
theorem dL_law_434 : decode cL_law 434 = .ok (.iload_n 3, 1) := by decide +kernel
theorem dL_law_435 : decode cL_law 435 = .ok (.iconst 1, 1) := by decide +kernel
theorem dL_law_436 : decode cL_law 436 = .ok (.iadd, 1) := by decide +kernel
theorem dL_law_437 : decode cL_law 437 = .ok (.iaload, 1) := by decide +kernel
theorem dL_law_438 : decode cL_law 438 = .ok (.invokevirtual 57, 3) := by decide +kernel
theorem dL_law_441 : decode cL_law 441 = .ok (.if_icmp .eq 293, 3) := by decide +kernel
theorem dL_law_444 : decode cL_law 444 = .ok (.iconst 0, 1) := by decide +kernel
theorem dL_law_445 : decode cL_law 445 = .ok (.ireturn, 1) := by decide +kernel
theorem dL_law_446 : decode cL_law 446 = .ok (.aload_n 1, 1) := by decide +kernel
theorem dL_law_447 : decode cL_law 447 = .ok (.aload_n 0, 1) := by decide +kernel
theorem dL_law_448 : decode cL_law 448 = .ok (.iload_n 3, 1) := by decide +kernel
theorem dL_law_449 : decode cL_law 449 = .ok (.iconst 1, 1) := by decide +kernel
theorem dL_law_450 : decode cL_law 450 = .ok (.iadd, 1) := by decide +kernel
theorem dL_law_451 : decode cL_law 451 = .ok (.iaload, 1) := by decide +kernel
theorem dL_law_452 : decode cL_law 452 = .ok (.i2c, 1) := by decide +kernel
theorem dL_law_453 : decode cL_law 453 = .ok (.invokevirtual 58, 3) := by decide +kernel
theorem dL_law_456 : decode cL_law 456 = .ok (.aload_n 2, 1) := by decide +kernel
theorem dL_law_457 : decode cL_law 457 = .ok (.aload_n 0, 1) := by decide +kernel
theorem dL_law_458 : decode cL_law 458 = .ok (.iload_n 3, 1) := by decide +kernel
theorem dL_law_459 : decode cL_law 459 = .ok (.iconst 1, 1) := by decide +kernel
theorem dL_law_460 : decode cL_law 460 = .ok (.iadd, 1) := by decide +kernel
theorem dL_law_461 : decode cL_law 461 = .ok (.iaload, 1) := by decide +kernel
theorem dL_law_462 : decode cL_law 462 = .ok (.i2c, 1) := by decide +kernel
theorem dL_law_463 : decode cL_law 463 = .ok (.invokevirtual 62, 3) := by decide +kernel
theorem dL_law_466 : decode cL_law 466 = .ok (.if_icmp .eq 268, 3) := by decide +kernel
theorem dL_law_469 : decode cL_law 469 = .ok (.iconst 0, 1) := by decide +kernel
theorem dL_law_470 : decode cL_law 470 = .ok (.ireturn, 1) := by decide +kernel
theorem dL_law_471 : decode cL_law 471 = .ok (.aload_n 1, 1) := by decide +kernel
theorem dL_law_472 : decode cL_law 472 = .ok (.invokevirtual 63, 3) := by decide +kernel
theorem dL_law_475 : decode cL_law 475 = .ok (.aload_n 2, 1) := by decide +kernel
theorem dL_law_476 : decode cL_law 476 = .ok (.invokevirtual 66, 3) := by decide +kernel
theorem dL_law_479 : decode cL_law 479 = .ok (.if_icmp .eq 255, 3) := by decide +kernel
theorem dL_law_482 : decode cL_law 482 = .ok (.iconst 0, 1) := by decide +kernel
theorem dL_law_483 : decode cL_law 483 = .ok (.ireturn, 1) := by decide +kernel
theorem dL_law_484 : decode cL_law 484 = .ok (.aload_n 1, 1) := by decide +kernel
theorem dL_law_485 : decode cL_law 485 = .ok (.invokevirtual 67, 3) := by decide +kernel
theorem dL_law_488 : decode cL_law 488 = .ok (.aload_n 2, 1) := by decide +kernel
theorem dL_law_489 : decode cL_law 489 = .ok (.invokevirtual 70, 3) := by decide +kernel
theorem dL_law_492 : decode cL_law 492 = .ok (.if_icmp .eq 242, 3) := by decide +kernel
theorem dL_law_495 : decode cL_law 495 = .ok (.iconst 0, 1) := by decide +kernel
theorem dL_law_496 : decode cL_law 496 = .ok (.ireturn, 1) := by decide +kernel
theorem dL_law_497 : decode cL_law 497 = .ok (.aload_n 1, 1) := by decide +kernel
theorem dL_law_498 : decode cL_law 498 = .ok (.invokevirtual 71, 3) := by decide +kernel
theorem dL_law_501 : decode cL_law 501 = .ok (.aload_n 2, 1) := by decide +kernel
theorem dL_law_502 : decode cL_law 502 = .ok (.invokevirtual 74, 3) := by decide +kernel
theorem dL_law_505 : decode cL_law 505 = .ok (.if_icmp .eq 229, 3) := by decide +kernel
theorem dL_law_508 : decode cL_law 508 = .ok (.iconst 0, 1) := by decide +kernel
theorem dL_law_509 : decode cL_law 509 = .ok (.ireturn, 1) := by decide +kernel
theorem dL_law_510 : decode cL_law 510 = .ok (.aload_n 1, 1) := by decide +kernel
theorem dL_law_511 : decode cL_law 511 = .ok (.invokevirtual 75, 3) := by decide +kernel
theorem dL_law_514 : decode cL_law 514 = .ok (.aload_n 2, 1) := by decide +kernel
theorem dL_law_515 : decode cL_law 515 = .ok (.invokevirtual 78, 3) := by decide +kernel
theorem dL_law_518 : decode cL_law 518 = .ok (.if_icmp .eq 216, 3) := by decide +kernel
theorem dL_law_521 : decode cL_law 521 = .ok (.iconst 0, 1) := by decide +kernel
theorem dL_law_522 : decode cL_law 522 = .ok (.ireturn, 1) := by decide +kernel
theorem dL_law_523 : decode cL_law 523 = .ok (.aload_n 1, 1) := by decide +kernel
theorem dL_law_524 : decode cL_law 524 = .ok (.aload_n 0, 1) := by decide +kernel
theorem dL_law_525 : decode cL_law 525 = .ok (.iload_n 3, 1) := by decide +kernel
theorem dL_law_526 : decode cL_law 526 = .ok (.iconst 1, 1) := by decide +kernel
theorem dL_law_527 : decode cL_law 527 = .ok (.iadd, 1) := by decide +kernel
theorem dL_law_528 : decode cL_law 528 = .ok (.iaload, 1) := by decide +kernel
theorem dL_law_529 : decode cL_law 529 = .ok (.aload_n 0, 1) := by decide +kernel
theorem dL_law_530 : decode cL_law 530 = .ok (.iload_n 3, 1) := by decide +kernel
theorem dL_law_531 : decode cL_law 531 = .ok (.iconst 2, 1) := by decide +kernel
theorem dL_law_532 : decode cL_law 532 = .ok (.iadd, 1) := by decide +kernel
theorem dL_law_533 : decode cL_law 533 = .ok (.iaload, 1) := by decide +kernel
theorem dL_law_534 : decode cL_law 534 = .ok (.invokevirtual 79, 3) := by decide +kernel
theorem dL_law_537 : decode cL_law 537 = .ok (.aload_n 2, 1) := by decide +kernel
theorem dL_law_538 : decode cL_law 538 = .ok (.aload_n 0, 1) := by decide +kernel
theorem dL_law_539 : decode cL_law 539 = .ok (.iload_n 3, 1) := by decide +kernel
theorem dL_law_540 : decode cL_law 540 = .ok (.iconst 1, 1) := by decide +kernel
theorem dL_law_541 : decode cL_law 541 = .ok (.iadd, 1) := by decide +kernel
theorem dL_law_542 : decode cL_law 542 = .ok (.iaload, 1) := by decide +kernel
theorem dL_law_543 : decode cL_law 543 = .ok (.aload_n 0, 1) := by decide +kernel
theorem dL_law_544 : decode cL_law 544 = .ok (.iload_n 3, 1) := by decide +kernel
theorem dL_law_545 : decode cL_law 545 = .ok (.iconst 2, 1) := by decide +kernel
theorem dL_law_546 : decode cL_law 546 = .ok (.iadd, 1) := by decide +kernel
theorem dL_law_547 : decode cL_law 547 = .ok (.iaload, 1) := by decide +kernel
theorem dL_law_548 : decode cL_law 548 = .ok (.invokevirtual 82, 3) := by decide +kernel
theorem dL_law_551 : decode cL_law 551 = .ok (.if_icmp .eq 183, 3) := by decide +kernel
theorem dL_law_554 : decode cL_law 554 = .ok (.iconst 0, 1) := by decide +kernel
theorem dL_law_555 : decode cL_law 555 = .ok (.ireturn, 1) := by decide +kernel
theorem dL_law_556 : decode cL_law 556 = .ok (.aload_n 1, 1) := by decide +kernel
theorem dL_law_557 : decode cL_law 557 = .ok (.aload_n 0, 1) := by decide +kernel
theorem dL_law_558 : decode cL_law 558 = .ok (.iload_n 3, 1) := by decide +kernel
theorem dL_law_559 : decode cL_law 559 = .ok (.iconst 1, 1) := by decide +kernel
theorem dL_law_560 : decode cL_law 560 = .ok (.iadd, 1) := by decide +kernel
theorem dL_law_561 : decode cL_law 561 = .ok (.iaload, 1) := by decide +kernel
theorem dL_law_562 : decode cL_law 562 = .ok (.aload_n 0, 1) := by decide +kernel
theorem dL_law_563 : decode cL_law 563 = .ok (.iload_n 3, 1) := by decide +kernel
theorem dL_law_564 : decode cL_law 564 = .ok (.iconst 2, 1) := by decide +kernel
theorem dL_law_565 : decode cL_law 565 = .ok (.iadd, 1) := by decide +kernel
theorem dL_law_566 : decode cL_law 566 = .ok (.iaload, 1) := by decide +kernel
theorem dL_law_567 : decode cL_law 567 = .ok (.aload_n 0, 1) := by decide +kernel
theorem dL_law_568 : decode cL_law 568 = .ok (.iload_n 3, 1) := by decide +kernel
theorem dL_law_569 : decode cL_law 569 = .ok (.iconst 3, 1) := by decide +kernel
theorem dL_law_570 : decode cL_law 570 = .ok (.iadd, 1) := by decide +kernel
theorem dL_law_571 : decode cL_law 571 = .ok (.iaload, 1) := by decide +kernel
theorem dL_law_572 : decode cL_law 572 = .ok (.invokevirtual 83, 3) := by decide +kernel
theorem dL_law_575 : decode cL_law 575 = .ok (.aload_n 2, 1) := by decide +kernel
theorem dL_law_576 : decode cL_law 576 = .ok (.aload_n 0, 1) := by decide +kernel
theorem dL_law_577 : decode cL_law 577 = .ok (.iload_n 3, 1) := by decide +kernel
theorem dL_law_578 : decode cL_law 578 = .ok (.iconst 1, 1) := by decide +kernel
theorem dL_law_579 : decode cL_law 579 = .ok (.iadd, 1) := by decide +kernel
theorem dL_law_580 : decode cL_law 580 = .ok (.iaload, 1) := by decide +kernel
theorem dL_law_581 : decode cL_law 581 = .ok (.aload_n 0, 1) := by decide +kernel
theorem dL_law_582 : decode cL_law 582 = .ok (.iload_n 3, 1) := by decide +kernel
theorem dL_law_583 : decode cL_law 583 = .ok (.iconst 2, 1) := by decide +kernel
theorem dL_law_584 : decode cL_law 584 = .ok (.iadd, 1) := by decide +kernel
theorem dL_law_585 : decode cL_law 585 = .ok (.iaload, 1) := by decide +kernel
theorem dL_law_586 : decode cL_law 586 = .ok (.aload_n 0, 1) := by decide +kernel
theorem dL_law_587 : decode cL_law 587 = .ok (.iload_n 3, 1) := by decide +kernel
theorem dL_law_588 : decode cL_law 588 = .ok (.iconst 3, 1) := by decide +kernel
theorem dL_law_589 : decode cL_law 589 = .ok (.iadd, 1) := by decide +kernel
theorem dL_law_590 : decode cL_law 590 = .ok (.iaload, 1) := by decide +kernel
theorem dL_law_591 : decode cL_law 591 = .ok (.invokevirtual 86, 3) := by decide +kernel
theorem dL_law_594 : decode cL_law 594 = .ok (.if_icmp .eq 140, 3) := by decide +kernel
theorem dL_law_597 : decode cL_law 597 = .ok (.iconst 0, 1) := by decide +kernel
theorem dL_law_598 : decode cL_law 598 = .ok (.ireturn, 1) := by decide +kernel
theorem dL_law_599 : decode cL_law 599 = .ok (.aload_n 1, 1) := by decide +kernel
theorem dL_law_600 : decode cL_law 600 = .ok (.aload_n 0, 1) := by decide +kernel
theorem dL_law_601 : decode cL_law 601 = .ok (.iload_n 3, 1) := by decide +kernel
theorem dL_law_602 : decode cL_law 602 = .ok (.iconst 1, 1) := by decide +kernel
theorem dL_law_603 : decode cL_law 603 = .ok (.iadd, 1) := by decide +kernel
theorem dL_law_604 : decode cL_law 604 = .ok (.iaload, 1) := by decide +kernel
theorem dL_law_605 : decode cL_law 605 = .ok (.aload_n 0, 1) := by decide +kernel
theorem dL_law_606 : decode cL_law 606 = .ok (.iload_n 3, 1) := by decide +kernel
theorem dL_law_607 : decode cL_law 607 = .ok (.iconst 2, 1) := by decide +kernel
theorem dL_law_608 : decode cL_law 608 = .ok (.iadd, 1) := by decide +kernel
theorem dL_law_609 : decode cL_law 609 = .ok (.iaload, 1) := by decide +kernel
theorem dL_law_610 : decode cL_law 610 = .ok (.invokevirtual 87, 3) := by decide +kernel
theorem dL_law_613 : decode cL_law 613 = .ok (.aload_n 2, 1) := by decide +kernel
theorem dL_law_614 : decode cL_law 614 = .ok (.aload_n 0, 1) := by decide +kernel
theorem dL_law_615 : decode cL_law 615 = .ok (.iload_n 3, 1) := by decide +kernel
theorem dL_law_616 : decode cL_law 616 = .ok (.iconst 1, 1) := by decide +kernel
theorem dL_law_617 : decode cL_law 617 = .ok (.iadd, 1) := by decide +kernel
theorem dL_law_618 : decode cL_law 618 = .ok (.iaload, 1) := by decide +kernel
theorem dL_law_619 : decode cL_law 619 = .ok (.aload_n 0, 1) := by decide +kernel
theorem dL_law_620 : decode cL_law 620 = .ok (.iload_n 3, 1) := by decide +kernel
theorem dL_law_621 : decode cL_law 621 = .ok (.iconst 2, 1) := by decide +kernel
theorem dL_law_622 : decode cL_law 622 = .ok (.iadd, 1) := by decide +kernel
theorem dL_law_623 : decode cL_law 623 = .ok (.iaload, 1) := by decide +kernel
theorem dL_law_624 : decode cL_law 624 = .ok (.invokevirtual 90, 3) := by decide +kernel
theorem dL_law_627 : decode cL_law 627 = .ok (.if_icmp .eq 107, 3) := by decide +kernel
theorem dL_law_630 : decode cL_law 630 = .ok (.iconst 0, 1) := by decide +kernel
theorem dL_law_631 : decode cL_law 631 = .ok (.ireturn, 1) := by decide +kernel
theorem dL_law_632 : decode cL_law 632 = .ok (.aload_n 1, 1) := by decide +kernel
theorem dL_law_633 : decode cL_law 633 = .ok (.aload_n 0, 1) := by decide +kernel
theorem dL_law_634 : decode cL_law 634 = .ok (.iload_n 3, 1) := by decide +kernel
theorem dL_law_635 : decode cL_law 635 = .ok (.iconst 1, 1) := by decide +kernel
theorem dL_law_636 : decode cL_law 636 = .ok (.iadd, 1) := by decide +kernel
theorem dL_law_637 : decode cL_law 637 = .ok (.iaload, 1) := by decide +kernel
theorem dL_law_638 : decode cL_law 638 = .ok (.aload_n 0, 1) := by decide +kernel
theorem dL_law_639 : decode cL_law 639 = .ok (.iload_n 3, 1) := by decide +kernel
theorem dL_law_640 : decode cL_law 640 = .ok (.iconst 2, 1) := by decide +kernel
theorem dL_law_641 : decode cL_law 641 = .ok (.iadd, 1) := by decide +kernel
theorem dL_law_642 : decode cL_law 642 = .ok (.iaload, 1) := by decide +kernel
theorem dL_law_643 : decode cL_law 643 = .ok (.invokevirtual 91, 3) := by decide +kernel
theorem dL_law_646 : decode cL_law 646 = .ok (.aload_n 2, 1) := by decide +kernel
theorem dL_law_647 : decode cL_law 647 = .ok (.aload_n 0, 1) := by decide +kernel
theorem dL_law_648 : decode cL_law 648 = .ok (.iload_n 3, 1) := by decide +kernel
theorem dL_law_649 : decode cL_law 649 = .ok (.iconst 1, 1) := by decide +kernel
theorem dL_law_650 : decode cL_law 650 = .ok (.iadd, 1) := by decide +kernel
theorem dL_law_651 : decode cL_law 651 = .ok (.iaload, 1) := by decide +kernel
theorem dL_law_652 : decode cL_law 652 = .ok (.aload_n 0, 1) := by decide +kernel
theorem dL_law_653 : decode cL_law 653 = .ok (.iload_n 3, 1) := by decide +kernel
theorem dL_law_654 : decode cL_law 654 = .ok (.iconst 2, 1) := by decide +kernel
theorem dL_law_655 : decode cL_law 655 = .ok (.iadd, 1) := by decide +kernel
theorem dL_law_656 : decode cL_law 656 = .ok (.iaload, 1) := by decide +kernel
theorem dL_law_657 : decode cL_law 657 = .ok (.invokevirtual 94, 3) := by decide +kernel
theorem dL_law_660 : decode cL_law 660 = .ok (.if_icmp .eq 74, 3) := by decide +kernel
theorem dL_law_663 : decode cL_law 663 = .ok (.iconst 0, 1) := by decide +kernel
theorem dL_law_664 : decode cL_law 664 = .ok (.ireturn, 1) := by decide +kernel
theorem dL_law_665 : decode cL_law 665 = .ok (.aload_n 1, 1) := by decide +kernel
theorem dL_law_666 : decode cL_law 666 = .ok (.aload_n 0, 1) := by decide +kernel
theorem dL_law_667 : decode cL_law 667 = .ok (.iload_n 3, 1) := by decide +kernel
theorem dL_law_668 : decode cL_law 668 = .ok (.iconst 1, 1) := by decide +kernel
theorem dL_law_669 : decode cL_law 669 = .ok (.iadd, 1) := by decide +kernel
theorem dL_law_670 : decode cL_law 670 = .ok (.iaload, 1) := by decide +kernel
theorem dL_law_671 : decode cL_law 671 = .ok (.aload_n 0, 1) := by decide +kernel
theorem dL_law_672 : decode cL_law 672 = .ok (.iload_n 3, 1) := by decide +kernel
theorem dL_law_673 : decode cL_law 673 = .ok (.iconst 2, 1) := by decide +kernel
theorem dL_law_674 : decode cL_law 674 = .ok (.iadd, 1) := by decide +kernel
theorem dL_law_675 : decode cL_law 675 = .ok (.iaload, 1) := by decide +kernel
theorem dL_law_676 : decode cL_law 676 = .ok (.invokevirtual 95, 3) := by decide +kernel
theorem dL_law_679 : decode cL_law 679 = .ok (.aload_n 2, 1) := by decide +kernel
theorem dL_law_680 : decode cL_law 680 = .ok (.aload_n 0, 1) := by decide +kernel
theorem dL_law_681 : decode cL_law 681 = .ok (.iload_n 3, 1) := by decide +kernel
theorem dL_law_682 : decode cL_law 682 = .ok (.iconst 1, 1) := by decide +kernel
theorem dL_law_683 : decode cL_law 683 = .ok (.iadd, 1) := by decide +kernel
theorem dL_law_684 : decode cL_law 684 = .ok (.iaload, 1) := by decide +kernel
theorem dL_law_685 : decode cL_law 685 = .ok (.aload_n 0, 1) := by decide +kernel
theorem dL_law_686 : decode cL_law 686 = .ok (.iload_n 3, 1) := by decide +kernel
theorem dL_law_687 : decode cL_law 687 = .ok (.iconst 2, 1) := by decide +kernel
theorem dL_law_688 : decode cL_law 688 = .ok (.iadd, 1) := by decide +kernel
theorem dL_law_689 : decode cL_law 689 = .ok (.iaload, 1) := by decide +kernel
theorem dL_law_690 : decode cL_law 690 = .ok (.invokevirtual 98, 3) := by decide +kernel
theorem dL_law_693 : decode cL_law 693 = .ok (.if_icmp .eq 41, 3) := by decide +kernel
theorem dL_law_696 : decode cL_law 696 = .ok (.iconst 0, 1) := by decide +kernel
theorem dL_law_697 : decode cL_law 697 = .ok (.ireturn, 1) := by decide +kernel
theorem dL_law_698 : decode cL_law 698 = .ok (.aload_n 1, 1) := by decide +kernel
theorem dL_law_699 : decode cL_law 699 = .ok (.invokevirtual 99, 3) := by decide +kernel
theorem dL_law_702 : decode cL_law 702 = .ok (.aload_n 2, 1) := by decide +kernel
theorem dL_law_703 : decode cL_law 703 = .ok (.invokevirtual 102, 3) := by decide +kernel
theorem dL_law_706 : decode cL_law 706 = .ok (.if_icmp .eq 28, 3) := by decide +kernel
theorem dL_law_709 : decode cL_law 709 = .ok (.iconst 0, 1) := by decide +kernel
theorem dL_law_710 : decode cL_law 710 = .ok (.ireturn, 1) := by decide +kernel
theorem dL_law_711 : decode cL_law 711 = .ok (.aload_n 1, 1) := by decide +kernel
theorem dL_law_712 : decode cL_law 712 = .ok (.aload_n 0, 1) := by decide +kernel
theorem dL_law_713 : decode cL_law 713 = .ok (.iload_n 3, 1) := by decide +kernel
theorem dL_law_714 : decode cL_law 714 = .ok (.iconst 1, 1) := by decide +kernel
theorem dL_law_715 : decode cL_law 715 = .ok (.iadd, 1) := by decide +kernel
theorem dL_law_716 : decode cL_law 716 = .ok (.iaload, 1) := by decide +kernel
theorem dL_law_717 : decode cL_law 717 = .ok (.invokevirtual 103, 3) := by decide +kernel
theorem dL_law_720 : decode cL_law 720 = .ok (.aload_n 2, 1) := by decide +kernel
theorem dL_law_721 : decode cL_law 721 = .ok (.aload_n 0, 1) := by decide +kernel
theorem dL_law_722 : decode cL_law 722 = .ok (.iload_n 3, 1) := by decide +kernel
theorem dL_law_723 : decode cL_law 723 = .ok (.iconst 1, 1) := by decide +kernel
theorem dL_law_724 : decode cL_law 724 = .ok (.iadd, 1) := by decide +kernel
theorem dL_law_725 : decode cL_law 725 = .ok (.iaload, 1) := by decide +kernel
theorem dL_law_726 : decode cL_law 726 = .ok (.invokevirtual 106, 3) := by decide +kernel
theorem dL_law_729 : decode cL_law 729 = .ok (.if_icmp .eq 5, 3) := by decide +kernel
theorem dL_law_732 : decode cL_law 732 = .ok (.iconst 0, 1) := by decide +kernel
theorem dL_law_733 : decode cL_law 733 = .ok (.ireturn, 1) := by decide +kernel
theorem dL_law_734 : decode cL_law 734 = .ok (.iinc 3 5, 3) := by decide +kernel
theorem dL_law_737 : decode cL_law 737 = .ok (.goto (-719), 3) := by decide +kernel
theorem dL_law_740 : decode cL_law 740 = .ok (.iconst 1, 1) := by decide +kernel
theorem dL_law_741 : decode cL_law 741 = .ok (.ireturn, 1) := by decide +kernel

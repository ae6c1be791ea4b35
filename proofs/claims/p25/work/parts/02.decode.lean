/-! the decode rows -/
theorem dX0_init_0 : decode cX0_init 0 = .ok (.aload_n 0, 1) := by decide +kernel
theorem dX0_init_1 : decode cX0_init 1 = .ok (.invokespecial 3, 3) := by decide +kernel
theorem dX0_init_4 : decode cX0_init 4 = .ok (.aload_n 0, 1) := by decide +kernel
theorem dX0_init_5 : decode cX0_init 5 = .ok (.iconst 4, 1) := by decide +kernel
theorem dX0_init_6 : decode cX0_init 6 = .ok (.anewarray 9, 3) := by decide +kernel
theorem dX0_init_9 : decode cX0_init 9 = .ok (.putfield 11, 3) := by decide +kernel
theorem dX0_init_12 : decode cX0_init 12 = .ok (.iconst 0, 1) := by decide +kernel
theorem dX0_init_13 : decode cX0_init 13 = .ok (.istore_n 1, 1) := by decide +kernel
theorem dX0_init_14 : decode cX0_init 14 = .ok (.iload_n 1, 1) := by decide +kernel
theorem dX0_init_15 : decode cX0_init 15 = .ok (.aload_n 0, 1) := by decide +kernel
theorem dX0_init_16 : decode cX0_init 16 = .ok (.getfield 11, 3) := by decide +kernel
theorem dX0_init_19 : decode cX0_init 19 = .ok (.arraylength, 1) := by decide +kernel
theorem dX0_init_20 : decode cX0_init 20 = .ok (.if_icmp .ge 22, 3) := by decide +kernel
theorem dX0_init_23 : decode cX0_init 23 = .ok (.aload_n 0, 1) := by decide +kernel
theorem dX0_init_24 : decode cX0_init 24 = .ok (.getfield 11, 3) := by decide +kernel
theorem dX0_init_27 : decode cX0_init 27 = .ok (.iload_n 1, 1) := by decide +kernel
theorem dX0_init_28 : decode cX0_init 28 = .ok (.new 9, 3) := by decide +kernel
theorem dX0_init_31 : decode cX0_init 31 = .ok (.dup, 1) := by decide +kernel
theorem dX0_init_32 : decode cX0_init 32 = .ok (.invokespecial 17, 3) := by decide +kernel
theorem dX0_init_35 : decode cX0_init 35 = .ok (.aastore, 1) := by decide +kernel
theorem dX0_init_36 : decode cX0_init 36 = .ok (.iinc 1 1, 3) := by decide +kernel
theorem dX0_init_39 : decode cX0_init 39 = .ok (.goto (-25), 3) := by decide +kernel
theorem dX0_init_42 : decode cX0_init 42 = .ok (.aload_n 0, 1) := by decide +kernel
theorem dX0_init_43 : decode cX0_init 43 = .ok (.iconst 0, 1) := by decide +kernel
theorem dX0_init_44 : decode cX0_init 44 = .ok (.putfield 18, 3) := by decide +kernel
theorem dX0_init_47 : decode cX0_init 47 = .ok (.aload_n 0, 1) := by decide +kernel
theorem dX0_init_48 : decode cX0_init 48 = .ok (.iconst 0, 1) := by decide +kernel
theorem dX0_init_49 : decode cX0_init 49 = .ok (.putfield 22, 3) := by decide +kernel
theorem dX0_init_52 : decode cX0_init 52 = .ok (.return_, 1) := by decide +kernel
theorem dX0_push_0 : decode cX0_push 0 = .ok (.aload_n 0, 1) := by decide +kernel
theorem dX0_push_1 : decode cX0_push 1 = .ok (.aload_n 0, 1) := by decide +kernel
theorem dX0_push_2 : decode cX0_push 2 = .ok (.getfield 18, 3) := by decide +kernel
theorem dX0_push_5 : decode cX0_push 5 = .ok (.invokevirtual 25, 3) := by decide +kernel
theorem dX0_push_8 : decode cX0_push 8 = .ok (.astore_n 2, 1) := by decide +kernel
theorem dX0_push_9 : decode cX0_push 9 = .ok (.aload_n 2, 1) := by decide +kernel
theorem dX0_push_10 : decode cX0_push 10 = .ok (.ifnull 8, 3) := by decide +kernel
theorem dX0_push_13 : decode cX0_push 13 = .ok (.aload_n 2, 1) := by decide +kernel
theorem dX0_push_14 : decode cX0_push 14 = .ok (.aload_n 1, 1) := by decide +kernel
theorem dX0_push_15 : decode cX0_push 15 = .ok (.invokevirtual 29, 3) := by decide +kernel
theorem dX0_push_18 : decode cX0_push 18 = .ok (.aload_n 0, 1) := by decide +kernel
theorem dX0_push_19 : decode cX0_push 19 = .ok (.aload_n 0, 1) := by decide +kernel
theorem dX0_push_20 : decode cX0_push 20 = .ok (.getfield 18, 3) := by decide +kernel
theorem dX0_push_23 : decode cX0_push 23 = .ok (.iconst 1, 1) := by decide +kernel
theorem dX0_push_24 : decode cX0_push 24 = .ok (.iadd, 1) := by decide +kernel
theorem dX0_push_25 : decode cX0_push 25 = .ok (.iconst 4, 1) := by decide +kernel
theorem dX0_push_26 : decode cX0_push 26 = .ok (.if_icmp .ge 12, 3) := by decide +kernel
theorem dX0_push_29 : decode cX0_push 29 = .ok (.aload_n 0, 1) := by decide +kernel
theorem dX0_push_30 : decode cX0_push 30 = .ok (.getfield 18, 3) := by decide +kernel
theorem dX0_push_33 : decode cX0_push 33 = .ok (.iconst 1, 1) := by decide +kernel
theorem dX0_push_34 : decode cX0_push 34 = .ok (.iadd, 1) := by decide +kernel
theorem dX0_push_35 : decode cX0_push 35 = .ok (.goto 4, 3) := by decide +kernel
theorem dX0_push_38 : decode cX0_push 38 = .ok (.iconst 0, 1) := by decide +kernel
theorem dX0_push_39 : decode cX0_push 39 = .ok (.putfield 18, 3) := by decide +kernel
theorem dX0_push_42 : decode cX0_push 42 = .ok (.aload_n 0, 1) := by decide +kernel
theorem dX0_push_43 : decode cX0_push 43 = .ok (.aload_n 0, 1) := by decide +kernel
theorem dX0_push_44 : decode cX0_push 44 = .ok (.getfield 22, 3) := by decide +kernel
theorem dX0_push_47 : decode cX0_push 47 = .ok (.iconst 4, 1) := by decide +kernel
theorem dX0_push_48 : decode cX0_push 48 = .ok (.if_icmp .ge 12, 3) := by decide +kernel
theorem dX0_push_51 : decode cX0_push 51 = .ok (.aload_n 0, 1) := by decide +kernel
theorem dX0_push_52 : decode cX0_push 52 = .ok (.getfield 22, 3) := by decide +kernel
theorem dX0_push_55 : decode cX0_push 55 = .ok (.iconst 1, 1) := by decide +kernel
theorem dX0_push_56 : decode cX0_push 56 = .ok (.iadd, 1) := by decide +kernel
theorem dX0_push_57 : decode cX0_push 57 = .ok (.goto 4, 3) := by decide +kernel
theorem dX0_push_60 : decode cX0_push 60 = .ok (.iconst 4, 1) := by decide +kernel
theorem dX0_push_61 : decode cX0_push 61 = .ok (.putfield 22, 3) := by decide +kernel
theorem dX0_push_64 : decode cX0_push 64 = .ok (.return_, 1) := by decide +kernel
theorem dX0_pop_0 : decode cX0_pop 0 = .ok (.aload_n 0, 1) := by decide +kernel
theorem dX0_pop_1 : decode cX0_pop 1 = .ok (.aload_n 0, 1) := by decide +kernel
theorem dX0_pop_2 : decode cX0_pop 2 = .ok (.getfield 18, 3) := by decide +kernel
theorem dX0_pop_5 : decode cX0_pop 5 = .ok (.ifCond .le 12, 3) := by decide +kernel
theorem dX0_pop_8 : decode cX0_pop 8 = .ok (.aload_n 0, 1) := by decide +kernel
theorem dX0_pop_9 : decode cX0_pop 9 = .ok (.getfield 18, 3) := by decide +kernel
theorem dX0_pop_12 : decode cX0_pop 12 = .ok (.iconst 1, 1) := by decide +kernel
theorem dX0_pop_13 : decode cX0_pop 13 = .ok (.isub, 1) := by decide +kernel
theorem dX0_pop_14 : decode cX0_pop 14 = .ok (.goto 4, 3) := by decide +kernel
theorem dX0_pop_17 : decode cX0_pop 17 = .ok (.iconst 3, 1) := by decide +kernel
theorem dX0_pop_18 : decode cX0_pop 18 = .ok (.putfield 18, 3) := by decide +kernel
theorem dX0_pop_21 : decode cX0_pop 21 = .ok (.aload_n 0, 1) := by decide +kernel
theorem dX0_pop_22 : decode cX0_pop 22 = .ok (.aload_n 0, 1) := by decide +kernel
theorem dX0_pop_23 : decode cX0_pop 23 = .ok (.getfield 22, 3) := by decide +kernel
theorem dX0_pop_26 : decode cX0_pop 26 = .ok (.iconst 1, 1) := by decide +kernel
theorem dX0_pop_27 : decode cX0_pop 27 = .ok (.isub, 1) := by decide +kernel
theorem dX0_pop_28 : decode cX0_pop 28 = .ok (.putfield 22, 3) := by decide +kernel
theorem dX0_pop_31 : decode cX0_pop 31 = .ok (.aload_n 0, 1) := by decide +kernel
theorem dX0_pop_32 : decode cX0_pop 32 = .ok (.aload_n 0, 1) := by decide +kernel
theorem dX0_pop_33 : decode cX0_pop 33 = .ok (.getfield 18, 3) := by decide +kernel
theorem dX0_pop_36 : decode cX0_pop 36 = .ok (.invokevirtual 25, 3) := by decide +kernel
theorem dX0_pop_39 : decode cX0_pop 39 = .ok (.astore_n 2, 1) := by decide +kernel
theorem dX0_pop_40 : decode cX0_pop 40 = .ok (.aload_n 2, 1) := by decide +kernel
theorem dX0_pop_41 : decode cX0_pop 41 = .ok (.ifnull 8, 3) := by decide +kernel
theorem dX0_pop_44 : decode cX0_pop 44 = .ok (.aload_n 1, 1) := by decide +kernel
theorem dX0_pop_45 : decode cX0_pop 45 = .ok (.aload_n 2, 1) := by decide +kernel
theorem dX0_pop_46 : decode cX0_pop 46 = .ok (.invokevirtual 29, 3) := by decide +kernel
theorem dX0_pop_49 : decode cX0_pop 49 = .ok (.return_, 1) := by decide +kernel
theorem dX0_stateAt_0 : decode cX0_stateAt 0 = .ok (.iload_n 1, 1) := by decide +kernel
theorem dX0_stateAt_1 : decode cX0_stateAt 1 = .ok (.ifCond .lt 21, 3) := by decide +kernel
theorem dX0_stateAt_4 : decode cX0_stateAt 4 = .ok (.iload_n 1, 1) := by decide +kernel
theorem dX0_stateAt_5 : decode cX0_stateAt 5 = .ok (.aload_n 0, 1) := by decide +kernel
theorem dX0_stateAt_6 : decode cX0_stateAt 6 = .ok (.getfield 11, 3) := by decide +kernel
theorem dX0_stateAt_9 : decode cX0_stateAt 9 = .ok (.arraylength, 1) := by decide +kernel
theorem dX0_stateAt_10 : decode cX0_stateAt 10 = .ok (.if_icmp .ge 12, 3) := by decide +kernel
theorem dX0_stateAt_13 : decode cX0_stateAt 13 = .ok (.aload_n 0, 1) := by decide +kernel
theorem dX0_stateAt_14 : decode cX0_stateAt 14 = .ok (.getfield 11, 3) := by decide +kernel
theorem dX0_stateAt_17 : decode cX0_stateAt 17 = .ok (.iload_n 1, 1) := by decide +kernel
theorem dX0_stateAt_18 : decode cX0_stateAt 18 = .ok (.aaload, 1) := by decide +kernel
theorem dX0_stateAt_19 : decode cX0_stateAt 19 = .ok (.goto 4, 3) := by decide +kernel
theorem dX0_stateAt_22 : decode cX0_stateAt 22 = .ok (.aconst_null, 1) := by decide +kernel
theorem dX0_stateAt_23 : decode cX0_stateAt 23 = .ok (.areturn, 1) := by decide +kernel
theorem dX1_init_0 : decode cX1_init 0 = .ok (.aload_n 0, 1) := by decide +kernel
theorem dX1_init_1 : decode cX1_init 1 = .ok (.invokespecial 1, 3) := by decide +kernel
theorem dX1_init_4 : decode cX1_init 4 = .ok (.aload_n 0, 1) := by decide +kernel
theorem dX1_init_5 : decode cX1_init 5 = .ok (.iload_n 1, 1) := by decide +kernel
theorem dX1_init_6 : decode cX1_init 6 = .ok (.ifCond .ge 7, 3) := by decide +kernel
theorem dX1_init_9 : decode cX1_init 9 = .ok (.iconst 0, 1) := by decide +kernel
theorem dX1_init_10 : decode cX1_init 10 = .ok (.goto 4, 3) := by decide +kernel
theorem dX1_init_13 : decode cX1_init 13 = .ok (.iload_n 1, 1) := by decide +kernel
theorem dX1_init_14 : decode cX1_init 14 = .ok (.newarray .int, 2) := by decide +kernel
theorem dX1_init_16 : decode cX1_init 16 = .ok (.putfield 7, 3) := by decide +kernel
theorem dX1_init_19 : decode cX1_init 19 = .ok (.return_, 1) := by decide +kernel
theorem dX1_at_0 : decode cX1_at 0 = .ok (.iload_n 1, 1) := by decide +kernel
theorem dX1_at_1 : decode cX1_at 1 = .ok (.ifCond .lt 21, 3) := by decide +kernel
theorem dX1_at_4 : decode cX1_at 4 = .ok (.iload_n 1, 1) := by decide +kernel
theorem dX1_at_5 : decode cX1_at 5 = .ok (.aload_n 0, 1) := by decide +kernel
theorem dX1_at_6 : decode cX1_at 6 = .ok (.getfield 7, 3) := by decide +kernel
theorem dX1_at_9 : decode cX1_at 9 = .ok (.arraylength, 1) := by decide +kernel
theorem dX1_at_10 : decode cX1_at 10 = .ok (.if_icmp .ge 12, 3) := by decide +kernel
theorem dX1_at_13 : decode cX1_at 13 = .ok (.aload_n 0, 1) := by decide +kernel
theorem dX1_at_14 : decode cX1_at 14 = .ok (.getfield 7, 3) := by decide +kernel
theorem dX1_at_17 : decode cX1_at 17 = .ok (.iload_n 1, 1) := by decide +kernel
theorem dX1_at_18 : decode cX1_at 18 = .ok (.iaload, 1) := by decide +kernel
theorem dX1_at_19 : decode cX1_at 19 = .ok (.goto 4, 3) := by decide +kernel
theorem dX1_at_22 : decode cX1_at 22 = .ok (.iconst 0, 1) := by decide +kernel
theorem dX1_at_23 : decode cX1_at 23 = .ok (.ireturn, 1) := by decide +kernel
theorem dX1_put_0 : decode cX1_put 0 = .ok (.iload_n 1, 1) := by decide +kernel
theorem dX1_put_1 : decode cX1_put 1 = .ok (.ifCond .lt 19, 3) := by decide +kernel
theorem dX1_put_4 : decode cX1_put 4 = .ok (.iload_n 1, 1) := by decide +kernel
theorem dX1_put_5 : decode cX1_put 5 = .ok (.aload_n 0, 1) := by decide +kernel
theorem dX1_put_6 : decode cX1_put 6 = .ok (.getfield 7, 3) := by decide +kernel
theorem dX1_put_9 : decode cX1_put 9 = .ok (.arraylength, 1) := by decide +kernel
theorem dX1_put_10 : decode cX1_put 10 = .ok (.if_icmp .ge 10, 3) := by decide +kernel
theorem dX1_put_13 : decode cX1_put 13 = .ok (.aload_n 0, 1) := by decide +kernel
theorem dX1_put_14 : decode cX1_put 14 = .ok (.getfield 7, 3) := by decide +kernel
theorem dX1_put_17 : decode cX1_put 17 = .ok (.iload_n 1, 1) := by decide +kernel
theorem dX1_put_18 : decode cX1_put 18 = .ok (.iload_n 2, 1) := by decide +kernel
theorem dX1_put_19 : decode cX1_put 19 = .ok (.iastore, 1) := by decide +kernel
theorem dX1_put_20 : decode cX1_put 20 = .ok (.return_, 1) := by decide +kernel
theorem dX1_fill_0 : decode cX1_fill 0 = .ok (.iconst 0, 1) := by decide +kernel
theorem dX1_fill_1 : decode cX1_fill 1 = .ok (.istore_n 2, 1) := by decide +kernel
theorem dX1_fill_2 : decode cX1_fill 2 = .ok (.iload_n 2, 1) := by decide +kernel
theorem dX1_fill_3 : decode cX1_fill 3 = .ok (.aload_n 0, 1) := by decide +kernel
theorem dX1_fill_4 : decode cX1_fill 4 = .ok (.getfield 7, 3) := by decide +kernel
theorem dX1_fill_7 : decode cX1_fill 7 = .ok (.arraylength, 1) := by decide +kernel
theorem dX1_fill_8 : decode cX1_fill 8 = .ok (.if_icmp .ge 16, 3) := by decide +kernel
theorem dX1_fill_11 : decode cX1_fill 11 = .ok (.aload_n 0, 1) := by decide +kernel
theorem dX1_fill_12 : decode cX1_fill 12 = .ok (.getfield 7, 3) := by decide +kernel
theorem dX1_fill_15 : decode cX1_fill 15 = .ok (.iload_n 2, 1) := by decide +kernel
theorem dX1_fill_16 : decode cX1_fill 16 = .ok (.iload_n 1, 1) := by decide +kernel
theorem dX1_fill_17 : decode cX1_fill 17 = .ok (.iastore, 1) := by decide +kernel
theorem dX1_fill_18 : decode cX1_fill 18 = .ok (.iinc 2 1, 3) := by decide +kernel
theorem dX1_fill_21 : decode cX1_fill 21 = .ok (.goto (-19), 3) := by decide +kernel
theorem dX1_fill_24 : decode cX1_fill 24 = .ok (.return_, 1) := by decide +kernel
theorem dX1_swap_0 : decode cX1_swap 0 = .ok (.aload_n 0, 1) := by decide +kernel
theorem dX1_swap_1 : decode cX1_swap 1 = .ok (.iload_n 1, 1) := by decide +kernel
theorem dX1_swap_2 : decode cX1_swap 2 = .ok (.invokevirtual 13, 3) := by decide +kernel
theorem dX1_swap_5 : decode cX1_swap 5 = .ok (.istore_n 3, 1) := by decide +kernel
theorem dX1_swap_6 : decode cX1_swap 6 = .ok (.aload_n 0, 1) := by decide +kernel
theorem dX1_swap_7 : decode cX1_swap 7 = .ok (.iload_n 1, 1) := by decide +kernel
theorem dX1_swap_8 : decode cX1_swap 8 = .ok (.aload_n 0, 1) := by decide +kernel
theorem dX1_swap_9 : decode cX1_swap 9 = .ok (.iload_n 2, 1) := by decide +kernel
theorem dX1_swap_10 : decode cX1_swap 10 = .ok (.invokevirtual 13, 3) := by decide +kernel
theorem dX1_swap_13 : decode cX1_swap 13 = .ok (.invokevirtual 17, 3) := by decide +kernel
theorem dX1_swap_16 : decode cX1_swap 16 = .ok (.aload_n 0, 1) := by decide +kernel
theorem dX1_swap_17 : decode cX1_swap 17 = .ok (.iload_n 2, 1) := by decide +kernel
theorem dX1_swap_18 : decode cX1_swap 18 = .ok (.iload_n 3, 1) := by decide +kernel
theorem dX1_swap_19 : decode cX1_swap 19 = .ok (.invokevirtual 17, 3) := by decide +kernel
theorem dX1_swap_22 : decode cX1_swap 22 = .ok (.return_, 1) := by decide +kernel
theorem dX1_copyFrom_0 : decode cX1_copyFrom 0 = .ok (.iconst 0, 1) := by decide +kernel
theorem dX1_copyFrom_1 : decode cX1_copyFrom 1 = .ok (.istore_n 2, 1) := by decide +kernel
theorem dX1_copyFrom_2 : decode cX1_copyFrom 2 = .ok (.iload_n 2, 1) := by decide +kernel
theorem dX1_copyFrom_3 : decode cX1_copyFrom 3 = .ok (.aload_n 0, 1) := by decide +kernel
theorem dX1_copyFrom_4 : decode cX1_copyFrom 4 = .ok (.getfield 7, 3) := by decide +kernel
theorem dX1_copyFrom_7 : decode cX1_copyFrom 7 = .ok (.arraylength, 1) := by decide +kernel
theorem dX1_copyFrom_8 : decode cX1_copyFrom 8 = .ok (.if_icmp .ge 20, 3) := by decide +kernel
theorem dX1_copyFrom_11 : decode cX1_copyFrom 11 = .ok (.aload_n 0, 1) := by decide +kernel
theorem dX1_copyFrom_12 : decode cX1_copyFrom 12 = .ok (.getfield 7, 3) := by decide +kernel
theorem dX1_copyFrom_15 : decode cX1_copyFrom 15 = .ok (.iload_n 2, 1) := by decide +kernel
theorem dX1_copyFrom_16 : decode cX1_copyFrom 16 = .ok (.aload_n 1, 1) := by decide +kernel
theorem dX1_copyFrom_17 : decode cX1_copyFrom 17 = .ok (.iload_n 2, 1) := by decide +kernel
theorem dX1_copyFrom_18 : decode cX1_copyFrom 18 = .ok (.invokevirtual 13, 3) := by decide +kernel
theorem dX1_copyFrom_21 : decode cX1_copyFrom 21 = .ok (.iastore, 1) := by decide +kernel
theorem dX1_copyFrom_22 : decode cX1_copyFrom 22 = .ok (.iinc 2 1, 3) := by decide +kernel
theorem dX1_copyFrom_25 : decode cX1_copyFrom 25 = .ok (.goto (-23), 3) := by decide +kernel
theorem dX1_copyFrom_28 : decode cX1_copyFrom 28 = .ok (.return_, 1) := by decide +kernel
theorem dX2_init_0 : decode cX2_init 0 = .ok (.aload_n 0, 1) := by decide +kernel
theorem dX2_init_1 : decode cX2_init 1 = .ok (.invokespecial 3, 3) := by decide +kernel
theorem dX2_init_4 : decode cX2_init 4 = .ok (.aload_n 0, 1) := by decide +kernel
theorem dX2_init_5 : decode cX2_init 5 = .ok (.iconst 0, 1) := by decide +kernel
theorem dX2_init_6 : decode cX2_init 6 = .ok (.putfield 9, 3) := by decide +kernel
theorem dX2_init_9 : decode cX2_init 9 = .ok (.aload_n 0, 1) := by decide +kernel
theorem dX2_init_10 : decode cX2_init 10 = .ok (.new 15, 3) := by decide +kernel
theorem dX2_init_13 : decode cX2_init 13 = .ok (.dup, 1) := by decide +kernel
theorem dX2_init_14 : decode cX2_init 14 = .ok (.bipush 32, 2) := by decide +kernel
theorem dX2_init_16 : decode cX2_init 16 = .ok (.invokespecial 17, 3) := by decide +kernel
theorem dX2_init_19 : decode cX2_init 19 = .ok (.putfield 20, 3) := by decide +kernel
theorem dX2_init_22 : decode cX2_init 22 = .ok (.aload_n 0, 1) := by decide +kernel
theorem dX2_init_23 : decode cX2_init 23 = .ok (.new 15, 3) := by decide +kernel
theorem dX2_init_26 : decode cX2_init 26 = .ok (.dup, 1) := by decide +kernel
theorem dX2_init_27 : decode cX2_init 27 = .ok (.bipush 32, 2) := by decide +kernel
theorem dX2_init_29 : decode cX2_init 29 = .ok (.invokespecial 17, 3) := by decide +kernel
theorem dX2_init_32 : decode cX2_init 32 = .ok (.putfield 24, 3) := by decide +kernel
theorem dX2_init_35 : decode cX2_init 35 = .ok (.aload_n 0, 1) := by decide +kernel
theorem dX2_init_36 : decode cX2_init 36 = .ok (.new 15, 3) := by decide +kernel
theorem dX2_init_39 : decode cX2_init 39 = .ok (.dup, 1) := by decide +kernel
theorem dX2_init_40 : decode cX2_init 40 = .ok (.bipush 32, 2) := by decide +kernel
theorem dX2_init_42 : decode cX2_init 42 = .ok (.invokespecial 17, 3) := by decide +kernel
theorem dX2_init_45 : decode cX2_init 45 = .ok (.putfield 27, 3) := by decide +kernel
theorem dX2_init_48 : decode cX2_init 48 = .ok (.aload_n 0, 1) := by decide +kernel
theorem dX2_init_49 : decode cX2_init 49 = .ok (.new 15, 3) := by decide +kernel
theorem dX2_init_52 : decode cX2_init 52 = .ok (.dup, 1) := by decide +kernel
theorem dX2_init_53 : decode cX2_init 53 = .ok (.bipush 32, 2) := by decide +kernel
theorem dX2_init_55 : decode cX2_init 55 = .ok (.invokespecial 17, 3) := by decide +kernel
theorem dX2_init_58 : decode cX2_init 58 = .ok (.putfield 30, 3) := by decide +kernel
theorem dX2_init_61 : decode cX2_init 61 = .ok (.aload_n 0, 1) := by decide +kernel
theorem dX2_init_62 : decode cX2_init 62 = .ok (.new 15, 3) := by decide +kernel
theorem dX2_init_65 : decode cX2_init 65 = .ok (.dup, 1) := by decide +kernel
theorem dX2_init_66 : decode cX2_init 66 = .ok (.bipush 96, 2) := by decide +kernel
theorem dX2_init_68 : decode cX2_init 68 = .ok (.invokespecial 17, 3) := by decide +kernel
theorem dX2_init_71 : decode cX2_init 71 = .ok (.putfield 33, 3) := by decide +kernel
theorem dX2_init_74 : decode cX2_init 74 = .ok (.aload_n 0, 1) := by decide +kernel
theorem dX2_init_75 : decode cX2_init 75 = .ok (.new 15, 3) := by decide +kernel
theorem dX2_init_78 : decode cX2_init 78 = .ok (.dup, 1) := by decide +kernel
theorem dX2_init_79 : decode cX2_init 79 = .ok (.bipush 96, 2) := by decide +kernel
theorem dX2_init_81 : decode cX2_init 81 = .ok (.invokespecial 17, 3) := by decide +kernel
theorem dX2_init_84 : decode cX2_init 84 = .ok (.putfield 36, 3) := by decide +kernel
theorem dX2_init_87 : decode cX2_init 87 = .ok (.aload_n 0, 1) := by decide +kernel
theorem dX2_init_88 : decode cX2_init 88 = .ok (.new 15, 3) := by decide +kernel
theorem dX2_init_91 : decode cX2_init 91 = .ok (.dup, 1) := by decide +kernel
theorem dX2_init_92 : decode cX2_init 92 = .ok (.bipush 96, 2) := by decide +kernel
theorem dX2_init_94 : decode cX2_init 94 = .ok (.invokespecial 17, 3) := by decide +kernel
theorem dX2_init_97 : decode cX2_init 97 = .ok (.putfield 39, 3) := by decide +kernel
theorem dX2_init_100 : decode cX2_init 100 = .ok (.aload_n 0, 1) := by decide +kernel
theorem dX2_init_101 : decode cX2_init 101 = .ok (.new 15, 3) := by decide +kernel
theorem dX2_init_104 : decode cX2_init 104 = .ok (.dup, 1) := by decide +kernel
theorem dX2_init_105 : decode cX2_init 105 = .ok (.iconst 2, 1) := by decide +kernel
theorem dX2_init_106 : decode cX2_init 106 = .ok (.invokespecial 17, 3) := by decide +kernel
theorem dX2_init_109 : decode cX2_init 109 = .ok (.putfield 42, 3) := by decide +kernel
theorem dX2_init_112 : decode cX2_init 112 = .ok (.aload_n 0, 1) := by decide +kernel
theorem dX2_init_113 : decode cX2_init 113 = .ok (.getfield 42, 3) := by decide +kernel
theorem dX2_init_116 : decode cX2_init 116 = .ok (.iconst (-1), 1) := by decide +kernel
theorem dX2_init_117 : decode cX2_init 117 = .ok (.invokevirtual 45, 3) := by decide +kernel
theorem dX2_init_120 : decode cX2_init 120 = .ok (.aload_n 0, 1) := by decide +kernel
theorem dX2_init_121 : decode cX2_init 121 = .ok (.new 15, 3) := by decide +kernel
theorem dX2_init_124 : decode cX2_init 124 = .ok (.dup, 1) := by decide +kernel
theorem dX2_init_125 : decode cX2_init 125 = .ok (.iconst 2, 1) := by decide +kernel
theorem dX2_init_126 : decode cX2_init 126 = .ok (.invokespecial 17, 3) := by decide +kernel
theorem dX2_init_129 : decode cX2_init 129 = .ok (.putfield 48, 3) := by decide +kernel
theorem dX2_init_132 : decode cX2_init 132 = .ok (.aload_n 0, 1) := by decide +kernel
theorem dX2_init_133 : decode cX2_init 133 = .ok (.iconst (-1), 1) := by decide +kernel
theorem dX2_init_134 : decode cX2_init 134 = .ok (.putfield 51, 3) := by decide +kernel
theorem dX2_init_137 : decode cX2_init 137 = .ok (.return_, 1) := by decide +kernel
theorem dX2_copyFrom_0 : decode cX2_copyFrom 0 = .ok (.aload_n 0, 1) := by decide +kernel
theorem dX2_copyFrom_1 : decode cX2_copyFrom 1 = .ok (.aload_n 1, 1) := by decide +kernel
theorem dX2_copyFrom_2 : decode cX2_copyFrom 2 = .ok (.getfield 9, 3) := by decide +kernel
theorem dX2_copyFrom_5 : decode cX2_copyFrom 5 = .ok (.putfield 9, 3) := by decide +kernel
theorem dX2_copyFrom_8 : decode cX2_copyFrom 8 = .ok (.aload_n 0, 1) := by decide +kernel
theorem dX2_copyFrom_9 : decode cX2_copyFrom 9 = .ok (.getfield 20, 3) := by decide +kernel
theorem dX2_copyFrom_12 : decode cX2_copyFrom 12 = .ok (.aload_n 1, 1) := by decide +kernel
theorem dX2_copyFrom_13 : decode cX2_copyFrom 13 = .ok (.getfield 20, 3) := by decide +kernel
theorem dX2_copyFrom_16 : decode cX2_copyFrom 16 = .ok (.invokevirtual 54, 3) := by decide +kernel
theorem dX2_copyFrom_19 : decode cX2_copyFrom 19 = .ok (.aload_n 0, 1) := by decide +kernel
theorem dX2_copyFrom_20 : decode cX2_copyFrom 20 = .ok (.getfield 24, 3) := by decide +kernel
theorem dX2_copyFrom_23 : decode cX2_copyFrom 23 = .ok (.aload_n 1, 1) := by decide +kernel
theorem dX2_copyFrom_24 : decode cX2_copyFrom 24 = .ok (.getfield 24, 3) := by decide +kernel
theorem dX2_copyFrom_27 : decode cX2_copyFrom 27 = .ok (.invokevirtual 54, 3) := by decide +kernel
theorem dX2_copyFrom_30 : decode cX2_copyFrom 30 = .ok (.aload_n 0, 1) := by decide +kernel
theorem dX2_copyFrom_31 : decode cX2_copyFrom 31 = .ok (.getfield 27, 3) := by decide +kernel
theorem dX2_copyFrom_34 : decode cX2_copyFrom 34 = .ok (.aload_n 1, 1) := by decide +kernel
theorem dX2_copyFrom_35 : decode cX2_copyFrom 35 = .ok (.getfield 27, 3) := by decide +kernel
theorem dX2_copyFrom_38 : decode cX2_copyFrom 38 = .ok (.invokevirtual 54, 3) := by decide +kernel
theorem dX2_copyFrom_41 : decode cX2_copyFrom 41 = .ok (.aload_n 0, 1) := by decide +kernel
theorem dX2_copyFrom_42 : decode cX2_copyFrom 42 = .ok (.getfield 30, 3) := by decide +kernel
theorem dX2_copyFrom_45 : decode cX2_copyFrom 45 = .ok (.aload_n 1, 1) := by decide +kernel
theorem dX2_copyFrom_46 : decode cX2_copyFrom 46 = .ok (.getfield 30, 3) := by decide +kernel
theorem dX2_copyFrom_49 : decode cX2_copyFrom 49 = .ok (.invokevirtual 54, 3) := by decide +kernel
theorem dX2_copyFrom_52 : decode cX2_copyFrom 52 = .ok (.aload_n 0, 1) := by decide +kernel
theorem dX2_copyFrom_53 : decode cX2_copyFrom 53 = .ok (.getfield 33, 3) := by decide +kernel
theorem dX2_copyFrom_56 : decode cX2_copyFrom 56 = .ok (.aload_n 1, 1) := by decide +kernel
theorem dX2_copyFrom_57 : decode cX2_copyFrom 57 = .ok (.getfield 33, 3) := by decide +kernel
theorem dX2_copyFrom_60 : decode cX2_copyFrom 60 = .ok (.invokevirtual 54, 3) := by decide +kernel
theorem dX2_copyFrom_63 : decode cX2_copyFrom 63 = .ok (.aload_n 0, 1) := by decide +kernel
theorem dX2_copyFrom_64 : decode cX2_copyFrom 64 = .ok (.getfield 36, 3) := by decide +kernel
theorem dX2_copyFrom_67 : decode cX2_copyFrom 67 = .ok (.aload_n 1, 1) := by decide +kernel
theorem dX2_copyFrom_68 : decode cX2_copyFrom 68 = .ok (.getfield 36, 3) := by decide +kernel
theorem dX2_copyFrom_71 : decode cX2_copyFrom 71 = .ok (.invokevirtual 54, 3) := by decide +kernel
theorem dX2_copyFrom_74 : decode cX2_copyFrom 74 = .ok (.aload_n 0, 1) := by decide +kernel
theorem dX2_copyFrom_75 : decode cX2_copyFrom 75 = .ok (.getfield 39, 3) := by decide +kernel
theorem dX2_copyFrom_78 : decode cX2_copyFrom 78 = .ok (.aload_n 1, 1) := by decide +kernel
theorem dX2_copyFrom_79 : decode cX2_copyFrom 79 = .ok (.getfield 39, 3) := by decide +kernel
theorem dX2_copyFrom_82 : decode cX2_copyFrom 82 = .ok (.invokevirtual 54, 3) := by decide +kernel
theorem dX2_copyFrom_85 : decode cX2_copyFrom 85 = .ok (.aload_n 0, 1) := by decide +kernel
theorem dX2_copyFrom_86 : decode cX2_copyFrom 86 = .ok (.getfield 42, 3) := by decide +kernel
theorem dX2_copyFrom_89 : decode cX2_copyFrom 89 = .ok (.aload_n 1, 1) := by decide +kernel
theorem dX2_copyFrom_90 : decode cX2_copyFrom 90 = .ok (.getfield 42, 3) := by decide +kernel
theorem dX2_copyFrom_93 : decode cX2_copyFrom 93 = .ok (.invokevirtual 54, 3) := by decide +kernel
theorem dX2_copyFrom_96 : decode cX2_copyFrom 96 = .ok (.aload_n 0, 1) := by decide +kernel
theorem dX2_copyFrom_97 : decode cX2_copyFrom 97 = .ok (.getfield 48, 3) := by decide +kernel
theorem dX2_copyFrom_100 : decode cX2_copyFrom 100 = .ok (.aload_n 1, 1) := by decide +kernel
theorem dX2_copyFrom_101 : decode cX2_copyFrom 101 = .ok (.getfield 48, 3) := by decide +kernel
theorem dX2_copyFrom_104 : decode cX2_copyFrom 104 = .ok (.invokevirtual 54, 3) := by decide +kernel
theorem dX2_copyFrom_107 : decode cX2_copyFrom 107 = .ok (.aload_n 0, 1) := by decide +kernel
theorem dX2_copyFrom_108 : decode cX2_copyFrom 108 = .ok (.aload_n 1, 1) := by decide +kernel
theorem dX2_copyFrom_109 : decode cX2_copyFrom 109 = .ok (.getfield 51, 3) := by decide +kernel
theorem dX2_copyFrom_112 : decode cX2_copyFrom 112 = .ok (.putfield 51, 3) := by decide +kernel
theorem dX2_copyFrom_115 : decode cX2_copyFrom 115 = .ok (.return_, 1) := by decide +kernel
theorem dX2_hasPage_0 : decode cX2_hasPage 0 = .ok (.iload_n 1, 1) := by decide +kernel
theorem dX2_hasPage_1 : decode cX2_hasPage 1 = .ok (.ifCond .lt 15, 3) := by decide +kernel
theorem dX2_hasPage_4 : decode cX2_hasPage 4 = .ok (.iload_n 1, 1) := by decide +kernel
theorem dX2_hasPage_5 : decode cX2_hasPage 5 = .ok (.aload_n 0, 1) := by decide +kernel
theorem dX2_hasPage_6 : decode cX2_hasPage 6 = .ok (.getfield 9, 3) := by decide +kernel
theorem dX2_hasPage_9 : decode cX2_hasPage 9 = .ok (.if_icmp .ge 7, 3) := by decide +kernel
theorem dX2_hasPage_12 : decode cX2_hasPage 12 = .ok (.iconst 1, 1) := by decide +kernel
theorem dX2_hasPage_13 : decode cX2_hasPage 13 = .ok (.goto 4, 3) := by decide +kernel
theorem dX2_hasPage_16 : decode cX2_hasPage 16 = .ok (.iconst 0, 1) := by decide +kernel
theorem dX2_hasPage_17 : decode cX2_hasPage 17 = .ok (.ireturn, 1) := by decide +kernel
theorem dX2_hasChoice_0 : decode cX2_hasChoice 0 = .ok (.aload_n 0, 1) := by decide +kernel
theorem dX2_hasChoice_1 : decode cX2_hasChoice 1 = .ok (.iload_n 1, 1) := by decide +kernel
theorem dX2_hasChoice_2 : decode cX2_hasChoice 2 = .ok (.invokevirtual 58, 3) := by decide +kernel
theorem dX2_hasChoice_5 : decode cX2_hasChoice 5 = .ok (.ifCond .eq 23, 3) := by decide +kernel
theorem dX2_hasChoice_8 : decode cX2_hasChoice 8 = .ok (.iload_n 2, 1) := by decide +kernel
theorem dX2_hasChoice_9 : decode cX2_hasChoice 9 = .ok (.ifCond .lt 19, 3) := by decide +kernel
theorem dX2_hasChoice_12 : decode cX2_hasChoice 12 = .ok (.iload_n 2, 1) := by decide +kernel
theorem dX2_hasChoice_13 : decode cX2_hasChoice 13 = .ok (.aload_n 0, 1) := by decide +kernel
theorem dX2_hasChoice_14 : decode cX2_hasChoice 14 = .ok (.getfield 30, 3) := by decide +kernel
theorem dX2_hasChoice_17 : decode cX2_hasChoice 17 = .ok (.iload_n 1, 1) := by decide +kernel
theorem dX2_hasChoice_18 : decode cX2_hasChoice 18 = .ok (.invokevirtual 62, 3) := by decide +kernel
theorem dX2_hasChoice_21 : decode cX2_hasChoice 21 = .ok (.if_icmp .ge 7, 3) := by decide +kernel
theorem dX2_hasChoice_24 : decode cX2_hasChoice 24 = .ok (.iconst 1, 1) := by decide +kernel
theorem dX2_hasChoice_25 : decode cX2_hasChoice 25 = .ok (.goto 4, 3) := by decide +kernel
theorem dX2_hasChoice_28 : decode cX2_hasChoice 28 = .ok (.iconst 0, 1) := by decide +kernel
theorem dX2_hasChoice_29 : decode cX2_hasChoice 29 = .ok (.ireturn, 1) := by decide +kernel
theorem dX2_bindPage_0 : decode cX2_bindPage 0 = .ok (.aload_n 0, 1) := by decide +kernel
theorem dX2_bindPage_1 : decode cX2_bindPage 1 = .ok (.getfield 9, 3) := by decide +kernel
theorem dX2_bindPage_4 : decode cX2_bindPage 4 = .ok (.istore 4, 2) := by decide +kernel
theorem dX2_bindPage_6 : decode cX2_bindPage 6 = .ok (.aload_n 0, 1) := by decide +kernel
theorem dX2_bindPage_7 : decode cX2_bindPage 7 = .ok (.getfield 20, 3) := by decide +kernel
theorem dX2_bindPage_10 : decode cX2_bindPage 10 = .ok (.iload 4, 2) := by decide +kernel
theorem dX2_bindPage_12 : decode cX2_bindPage 12 = .ok (.iload_n 1, 1) := by decide +kernel
theorem dX2_bindPage_13 : decode cX2_bindPage 13 = .ok (.invokevirtual 66, 3) := by decide +kernel
theorem dX2_bindPage_16 : decode cX2_bindPage 16 = .ok (.aload_n 0, 1) := by decide +kernel
theorem dX2_bindPage_17 : decode cX2_bindPage 17 = .ok (.getfield 24, 3) := by decide +kernel
theorem dX2_bindPage_20 : decode cX2_bindPage 20 = .ok (.iload 4, 2) := by decide +kernel
theorem dX2_bindPage_22 : decode cX2_bindPage 22 = .ok (.iload_n 2, 1) := by decide +kernel
theorem dX2_bindPage_23 : decode cX2_bindPage 23 = .ok (.invokevirtual 66, 3) := by decide +kernel
theorem dX2_bindPage_26 : decode cX2_bindPage 26 = .ok (.aload_n 0, 1) := by decide +kernel
theorem dX2_bindPage_27 : decode cX2_bindPage 27 = .ok (.getfield 27, 3) := by decide +kernel
theorem dX2_bindPage_30 : decode cX2_bindPage 30 = .ok (.iload 4, 2) := by decide +kernel
theorem dX2_bindPage_32 : decode cX2_bindPage 32 = .ok (.iload_n 3, 1) := by decide +kernel
theorem dX2_bindPage_33 : decode cX2_bindPage 33 = .ok (.invokevirtual 66, 3) := by decide +kernel
theorem dX2_bindPage_36 : decode cX2_bindPage 36 = .ok (.aload_n 0, 1) := by decide +kernel
theorem dX2_bindPage_37 : decode cX2_bindPage 37 = .ok (.getfield 30, 3) := by decide +kernel
theorem dX2_bindPage_40 : decode cX2_bindPage 40 = .ok (.iload 4, 2) := by decide +kernel
theorem dX2_bindPage_42 : decode cX2_bindPage 42 = .ok (.iconst 0, 1) := by decide +kernel
theorem dX2_bindPage_43 : decode cX2_bindPage 43 = .ok (.invokevirtual 66, 3) := by decide +kernel
theorem dX2_bindPage_46 : decode cX2_bindPage 46 = .ok (.aload_n 0, 1) := by decide +kernel
theorem dX2_bindPage_47 : decode cX2_bindPage 47 = .ok (.iload 4, 2) := by decide +kernel
theorem dX2_bindPage_49 : decode cX2_bindPage 49 = .ok (.iconst 1, 1) := by decide +kernel
theorem dX2_bindPage_50 : decode cX2_bindPage 50 = .ok (.iadd, 1) := by decide +kernel
theorem dX2_bindPage_51 : decode cX2_bindPage 51 = .ok (.putfield 9, 3) := by decide +kernel
theorem dX2_bindPage_54 : decode cX2_bindPage 54 = .ok (.iload 4, 2) := by decide +kernel
theorem dX2_bindPage_56 : decode cX2_bindPage 56 = .ok (.ireturn, 1) := by decide +kernel
theorem dX2_errorOfChoice_0 : decode cX2_errorOfChoice 0 = .ok (.aload_n 0, 1) := by decide +kernel
theorem dX2_errorOfChoice_1 : decode cX2_errorOfChoice 1 = .ok (.iload_n 1, 1) := by decide +kernel
theorem dX2_errorOfChoice_2 : decode cX2_errorOfChoice 2 = .ok (.invokevirtual 58, 3) := by decide +kernel
theorem dX2_errorOfChoice_5 : decode cX2_errorOfChoice 5 = .ok (.ifCond .eq 11, 3) := by decide +kernel
theorem dX2_errorOfChoice_8 : decode cX2_errorOfChoice 8 = .ok (.aload_n 0, 1) := by decide +kernel
theorem dX2_errorOfChoice_9 : decode cX2_errorOfChoice 9 = .ok (.iload_n 2, 1) := by decide +kernel
theorem dX2_errorOfChoice_10 : decode cX2_errorOfChoice 10 = .ok (.invokevirtual 58, 3) := by decide +kernel
theorem dX2_errorOfChoice_13 : decode cX2_errorOfChoice 13 = .ok (.ifCond .ne 5, 3) := by decide +kernel
theorem dX2_errorOfChoice_16 : decode cX2_errorOfChoice 16 = .ok (.iconst (-1), 1) := by decide +kernel
theorem dX2_errorOfChoice_17 : decode cX2_errorOfChoice 17 = .ok (.ireturn, 1) := by decide +kernel
theorem dX2_errorOfChoice_18 : decode cX2_errorOfChoice 18 = .ok (.iload_n 3, 1) := by decide +kernel
theorem dX2_errorOfChoice_19 : decode cX2_errorOfChoice 19 = .ok (.invokestatic 70, 3) := by decide +kernel
theorem dX2_errorOfChoice_22 : decode cX2_errorOfChoice 22 = .ok (.ifCond .eq 11, 3) := by decide +kernel
theorem dX2_errorOfChoice_25 : decode cX2_errorOfChoice 25 = .ok (.iload 4, 2) := by decide +kernel
theorem dX2_errorOfChoice_27 : decode cX2_errorOfChoice 27 = .ok (.invokestatic 70, 3) := by decide +kernel
theorem dX2_errorOfChoice_30 : decode cX2_errorOfChoice 30 = .ok (.ifCond .ne 6, 3) := by decide +kernel
theorem dX2_errorOfChoice_33 : decode cX2_errorOfChoice 33 = .ok (.bipush (-2), 2) := by decide +kernel
theorem dX2_errorOfChoice_35 : decode cX2_errorOfChoice 35 = .ok (.ireturn, 1) := by decide +kernel
theorem dX2_errorOfChoice_36 : decode cX2_errorOfChoice 36 = .ok (.aload_n 0, 1) := by decide +kernel
theorem dX2_errorOfChoice_37 : decode cX2_errorOfChoice 37 = .ok (.getfield 30, 3) := by decide +kernel
theorem dX2_errorOfChoice_40 : decode cX2_errorOfChoice 40 = .ok (.iload_n 1, 1) := by decide +kernel
theorem dX2_errorOfChoice_41 : decode cX2_errorOfChoice 41 = .ok (.invokevirtual 62, 3) := by decide +kernel
theorem dX2_errorOfChoice_44 : decode cX2_errorOfChoice 44 = .ok (.iconst 3, 1) := by decide +kernel
theorem dX2_errorOfChoice_45 : decode cX2_errorOfChoice 45 = .ok (.if_icmp .lt 8, 3) := by decide +kernel
theorem dX2_errorOfChoice_48 : decode cX2_errorOfChoice 48 = .ok (.bipush (-3), 2) := by decide +kernel
theorem dX2_errorOfChoice_50 : decode cX2_errorOfChoice 50 = .ok (.goto 4, 3) := by decide +kernel
theorem dX2_errorOfChoice_53 : decode cX2_errorOfChoice 53 = .ok (.iconst 0, 1) := by decide +kernel
theorem dX2_errorOfChoice_54 : decode cX2_errorOfChoice 54 = .ok (.ireturn, 1) := by decide +kernel
theorem dX2_appendChoice_0 : decode cX2_appendChoice 0 = .ok (.aload_n 0, 1) := by decide +kernel
theorem dX2_appendChoice_1 : decode cX2_appendChoice 1 = .ok (.getfield 30, 3) := by decide +kernel
theorem dX2_appendChoice_4 : decode cX2_appendChoice 4 = .ok (.iload_n 1, 1) := by decide +kernel
theorem dX2_appendChoice_5 : decode cX2_appendChoice 5 = .ok (.invokevirtual 62, 3) := by decide +kernel
theorem dX2_appendChoice_8 : decode cX2_appendChoice 8 = .ok (.istore 5, 2) := by decide +kernel
theorem dX2_appendChoice_10 : decode cX2_appendChoice 10 = .ok (.iload_n 1, 1) := by decide +kernel
theorem dX2_appendChoice_11 : decode cX2_appendChoice 11 = .ok (.iload 5, 2) := by decide +kernel
theorem dX2_appendChoice_13 : decode cX2_appendChoice 13 = .ok (.invokestatic 73, 3) := by decide +kernel
theorem dX2_appendChoice_16 : decode cX2_appendChoice 16 = .ok (.istore 6, 2) := by decide +kernel
theorem dX2_appendChoice_18 : decode cX2_appendChoice 18 = .ok (.aload_n 0, 1) := by decide +kernel
theorem dX2_appendChoice_19 : decode cX2_appendChoice 19 = .ok (.getfield 33, 3) := by decide +kernel
theorem dX2_appendChoice_22 : decode cX2_appendChoice 22 = .ok (.iload 6, 2) := by decide +kernel
theorem dX2_appendChoice_24 : decode cX2_appendChoice 24 = .ok (.iload_n 2, 1) := by decide +kernel
theorem dX2_appendChoice_25 : decode cX2_appendChoice 25 = .ok (.invokevirtual 66, 3) := by decide +kernel
theorem dX2_appendChoice_28 : decode cX2_appendChoice 28 = .ok (.aload_n 0, 1) := by decide +kernel
theorem dX2_appendChoice_29 : decode cX2_appendChoice 29 = .ok (.getfield 36, 3) := by decide +kernel
theorem dX2_appendChoice_32 : decode cX2_appendChoice 32 = .ok (.iload 6, 2) := by decide +kernel
theorem dX2_appendChoice_34 : decode cX2_appendChoice 34 = .ok (.iload_n 3, 1) := by decide +kernel
theorem dX2_appendChoice_35 : decode cX2_appendChoice 35 = .ok (.invokevirtual 66, 3) := by decide +kernel
theorem dX2_appendChoice_38 : decode cX2_appendChoice 38 = .ok (.aload_n 0, 1) := by decide +kernel
theorem dX2_appendChoice_39 : decode cX2_appendChoice 39 = .ok (.getfield 39, 3) := by decide +kernel
theorem dX2_appendChoice_42 : decode cX2_appendChoice 42 = .ok (.iload 6, 2) := by decide +kernel
theorem dX2_appendChoice_44 : decode cX2_appendChoice 44 = .ok (.iload 4, 2) := by decide +kernel
theorem dX2_appendChoice_46 : decode cX2_appendChoice 46 = .ok (.invokevirtual 66, 3) := by decide +kernel
theorem dX2_appendChoice_49 : decode cX2_appendChoice 49 = .ok (.aload_n 0, 1) := by decide +kernel
theorem dX2_appendChoice_50 : decode cX2_appendChoice 50 = .ok (.getfield 30, 3) := by decide +kernel
theorem dX2_appendChoice_53 : decode cX2_appendChoice 53 = .ok (.iload_n 1, 1) := by decide +kernel
theorem dX2_appendChoice_54 : decode cX2_appendChoice 54 = .ok (.iload 5, 2) := by decide +kernel
theorem dX2_appendChoice_56 : decode cX2_appendChoice 56 = .ok (.iconst 1, 1) := by decide +kernel
theorem dX2_appendChoice_57 : decode cX2_appendChoice 57 = .ok (.iadd, 1) := by decide +kernel
theorem dX2_appendChoice_58 : decode cX2_appendChoice 58 = .ok (.invokevirtual 66, 3) := by decide +kernel
theorem dX2_appendChoice_61 : decode cX2_appendChoice 61 = .ok (.iload 5, 2) := by decide +kernel
theorem dX2_appendChoice_63 : decode cX2_appendChoice 63 = .ok (.ireturn, 1) := by decide +kernel
theorem dX2_removeChoice_0 : decode cX2_removeChoice 0 = .ok (.aload_n 0, 1) := by decide +kernel
theorem dX2_removeChoice_1 : decode cX2_removeChoice 1 = .ok (.getfield 33, 3) := by decide +kernel
theorem dX2_removeChoice_4 : decode cX2_removeChoice 4 = .ok (.iload_n 1, 1) := by decide +kernel
theorem dX2_removeChoice_5 : decode cX2_removeChoice 5 = .ok (.iload_n 2, 1) := by decide +kernel
theorem dX2_removeChoice_6 : decode cX2_removeChoice 6 = .ok (.invokestatic 73, 3) := by decide +kernel
theorem dX2_removeChoice_9 : decode cX2_removeChoice 9 = .ok (.invokevirtual 62, 3) := by decide +kernel
theorem dX2_removeChoice_12 : decode cX2_removeChoice 12 = .ok (.istore_n 3, 1) := by decide +kernel
theorem dX2_removeChoice_13 : decode cX2_removeChoice 13 = .ok (.aload_n 0, 1) := by decide +kernel
theorem dX2_removeChoice_14 : decode cX2_removeChoice 14 = .ok (.getfield 30, 3) := by decide +kernel
theorem dX2_removeChoice_17 : decode cX2_removeChoice 17 = .ok (.iload_n 1, 1) := by decide +kernel
theorem dX2_removeChoice_18 : decode cX2_removeChoice 18 = .ok (.invokevirtual 62, 3) := by decide +kernel
theorem dX2_removeChoice_21 : decode cX2_removeChoice 21 = .ok (.iconst 1, 1) := by decide +kernel
theorem dX2_removeChoice_22 : decode cX2_removeChoice 22 = .ok (.isub, 1) := by decide +kernel
theorem dX2_removeChoice_23 : decode cX2_removeChoice 23 = .ok (.istore 4, 2) := by decide +kernel
theorem dX2_removeChoice_25 : decode cX2_removeChoice 25 = .ok (.iload_n 2, 1) := by decide +kernel
theorem dX2_removeChoice_26 : decode cX2_removeChoice 26 = .ok (.istore 5, 2) := by decide +kernel
theorem dX2_removeChoice_28 : decode cX2_removeChoice 28 = .ok (.iload 5, 2) := by decide +kernel
theorem dX2_removeChoice_30 : decode cX2_removeChoice 30 = .ok (.iload 4, 2) := by decide +kernel
theorem dX2_removeChoice_32 : decode cX2_removeChoice 32 = .ok (.if_icmp .ge 83, 3) := by decide +kernel
theorem dX2_removeChoice_35 : decode cX2_removeChoice 35 = .ok (.iload 5, 2) := by decide +kernel
theorem dX2_removeChoice_37 : decode cX2_removeChoice 37 = .ok (.iconst 3, 1) := by decide +kernel
theorem dX2_removeChoice_38 : decode cX2_removeChoice 38 = .ok (.if_icmp .ge 77, 3) := by decide +kernel
theorem dX2_removeChoice_41 : decode cX2_removeChoice 41 = .ok (.iload_n 1, 1) := by decide +kernel
theorem dX2_removeChoice_42 : decode cX2_removeChoice 42 = .ok (.iload 5, 2) := by decide +kernel
theorem dX2_removeChoice_44 : decode cX2_removeChoice 44 = .ok (.invokestatic 73, 3) := by decide +kernel
theorem dX2_removeChoice_47 : decode cX2_removeChoice 47 = .ok (.istore 6, 2) := by decide +kernel
theorem dX2_removeChoice_49 : decode cX2_removeChoice 49 = .ok (.aload_n 0, 1) := by decide +kernel
theorem dX2_removeChoice_50 : decode cX2_removeChoice 50 = .ok (.getfield 33, 3) := by decide +kernel
theorem dX2_removeChoice_53 : decode cX2_removeChoice 53 = .ok (.iload 6, 2) := by decide +kernel
theorem dX2_removeChoice_55 : decode cX2_removeChoice 55 = .ok (.aload_n 0, 1) := by decide +kernel
theorem dX2_removeChoice_56 : decode cX2_removeChoice 56 = .ok (.getfield 33, 3) := by decide +kernel
theorem dX2_removeChoice_59 : decode cX2_removeChoice 59 = .ok (.iload 6, 2) := by decide +kernel
theorem dX2_removeChoice_61 : decode cX2_removeChoice 61 = .ok (.iconst 1, 1) := by decide +kernel
theorem dX2_removeChoice_62 : decode cX2_removeChoice 62 = .ok (.iadd, 1) := by decide +kernel
theorem dX2_removeChoice_63 : decode cX2_removeChoice 63 = .ok (.invokevirtual 62, 3) := by decide +kernel
theorem dX2_removeChoice_66 : decode cX2_removeChoice 66 = .ok (.invokevirtual 66, 3) := by decide +kernel
theorem dX2_removeChoice_69 : decode cX2_removeChoice 69 = .ok (.aload_n 0, 1) := by decide +kernel
theorem dX2_removeChoice_70 : decode cX2_removeChoice 70 = .ok (.getfield 36, 3) := by decide +kernel
theorem dX2_removeChoice_73 : decode cX2_removeChoice 73 = .ok (.iload 6, 2) := by decide +kernel
theorem dX2_removeChoice_75 : decode cX2_removeChoice 75 = .ok (.aload_n 0, 1) := by decide +kernel
theorem dX2_removeChoice_76 : decode cX2_removeChoice 76 = .ok (.getfield 36, 3) := by decide +kernel
theorem dX2_removeChoice_79 : decode cX2_removeChoice 79 = .ok (.iload 6, 2) := by decide +kernel
theorem dX2_removeChoice_81 : decode cX2_removeChoice 81 = .ok (.iconst 1, 1) := by decide +kernel
theorem dX2_removeChoice_82 : decode cX2_removeChoice 82 = .ok (.iadd, 1) := by decide +kernel
theorem dX2_removeChoice_83 : decode cX2_removeChoice 83 = .ok (.invokevirtual 62, 3) := by decide +kernel
theorem dX2_removeChoice_86 : decode cX2_removeChoice 86 = .ok (.invokevirtual 66, 3) := by decide +kernel
theorem dX2_removeChoice_89 : decode cX2_removeChoice 89 = .ok (.aload_n 0, 1) := by decide +kernel
theorem dX2_removeChoice_90 : decode cX2_removeChoice 90 = .ok (.getfield 39, 3) := by decide +kernel
theorem dX2_removeChoice_93 : decode cX2_removeChoice 93 = .ok (.iload 6, 2) := by decide +kernel
theorem dX2_removeChoice_95 : decode cX2_removeChoice 95 = .ok (.aload_n 0, 1) := by decide +kernel
theorem dX2_removeChoice_96 : decode cX2_removeChoice 96 = .ok (.getfield 39, 3) := by decide +kernel
theorem dX2_removeChoice_99 : decode cX2_removeChoice 99 = .ok (.iload 6, 2) := by decide +kernel
theorem dX2_removeChoice_101 : decode cX2_removeChoice 101 = .ok (.iconst 1, 1) := by decide +kernel
theorem dX2_removeChoice_102 : decode cX2_removeChoice 102 = .ok (.iadd, 1) := by decide +kernel
theorem dX2_removeChoice_103 : decode cX2_removeChoice 103 = .ok (.invokevirtual 62, 3) := by decide +kernel
theorem dX2_removeChoice_106 : decode cX2_removeChoice 106 = .ok (.invokevirtual 66, 3) := by decide +kernel
theorem dX2_removeChoice_109 : decode cX2_removeChoice 109 = .ok (.iinc 5 1, 3) := by decide +kernel
theorem dX2_removeChoice_112 : decode cX2_removeChoice 112 = .ok (.goto (-84), 3) := by decide +kernel
theorem dX2_removeChoice_115 : decode cX2_removeChoice 115 = .ok (.aload_n 0, 1) := by decide +kernel
theorem dX2_removeChoice_116 : decode cX2_removeChoice 116 = .ok (.getfield 30, 3) := by decide +kernel
theorem dX2_removeChoice_119 : decode cX2_removeChoice 119 = .ok (.iload_n 1, 1) := by decide +kernel
theorem dX2_removeChoice_120 : decode cX2_removeChoice 120 = .ok (.iload 4, 2) := by decide +kernel
theorem dX2_removeChoice_122 : decode cX2_removeChoice 122 = .ok (.invokevirtual 66, 3) := by decide +kernel
theorem dX2_removeChoice_125 : decode cX2_removeChoice 125 = .ok (.iload_n 3, 1) := by decide +kernel
theorem dX2_removeChoice_126 : decode cX2_removeChoice 126 = .ok (.ireturn, 1) := by decide +kernel
theorem dX2_swapPages_0 : decode cX2_swapPages 0 = .ok (.aload_n 0, 1) := by decide +kernel
theorem dX2_swapPages_1 : decode cX2_swapPages 1 = .ok (.getfield 20, 3) := by decide +kernel
theorem dX2_swapPages_4 : decode cX2_swapPages 4 = .ok (.iload_n 1, 1) := by decide +kernel
theorem dX2_swapPages_5 : decode cX2_swapPages 5 = .ok (.iload_n 2, 1) := by decide +kernel
theorem dX2_swapPages_6 : decode cX2_swapPages 6 = .ok (.invokevirtual 77, 3) := by decide +kernel
theorem dX2_swapPages_9 : decode cX2_swapPages 9 = .ok (.aload_n 0, 1) := by decide +kernel
theorem dX2_swapPages_10 : decode cX2_swapPages 10 = .ok (.getfield 24, 3) := by decide +kernel
theorem dX2_swapPages_13 : decode cX2_swapPages 13 = .ok (.iload_n 1, 1) := by decide +kernel
theorem dX2_swapPages_14 : decode cX2_swapPages 14 = .ok (.iload_n 2, 1) := by decide +kernel
theorem dX2_swapPages_15 : decode cX2_swapPages 15 = .ok (.invokevirtual 77, 3) := by decide +kernel
theorem dX2_swapPages_18 : decode cX2_swapPages 18 = .ok (.aload_n 0, 1) := by decide +kernel
theorem dX2_swapPages_19 : decode cX2_swapPages 19 = .ok (.getfield 27, 3) := by decide +kernel
theorem dX2_swapPages_22 : decode cX2_swapPages 22 = .ok (.iload_n 1, 1) := by decide +kernel
theorem dX2_swapPages_23 : decode cX2_swapPages 23 = .ok (.iload_n 2, 1) := by decide +kernel
theorem dX2_swapPages_24 : decode cX2_swapPages 24 = .ok (.invokevirtual 77, 3) := by decide +kernel
theorem dX2_swapPages_27 : decode cX2_swapPages 27 = .ok (.aload_n 0, 1) := by decide +kernel
theorem dX2_swapPages_28 : decode cX2_swapPages 28 = .ok (.getfield 30, 3) := by decide +kernel
theorem dX2_swapPages_31 : decode cX2_swapPages 31 = .ok (.iload_n 1, 1) := by decide +kernel
theorem dX2_swapPages_32 : decode cX2_swapPages 32 = .ok (.iload_n 2, 1) := by decide +kernel
theorem dX2_swapPages_33 : decode cX2_swapPages 33 = .ok (.invokevirtual 77, 3) := by decide +kernel
theorem dX2_swapPages_36 : decode cX2_swapPages 36 = .ok (.iconst 0, 1) := by decide +kernel
theorem dX2_swapPages_37 : decode cX2_swapPages 37 = .ok (.istore_n 3, 1) := by decide +kernel
theorem dX2_swapPages_38 : decode cX2_swapPages 38 = .ok (.iload_n 3, 1) := by decide +kernel
theorem dX2_swapPages_39 : decode cX2_swapPages 39 = .ok (.iconst 3, 1) := by decide +kernel
theorem dX2_swapPages_40 : decode cX2_swapPages 40 = .ok (.if_icmp .ge 56, 3) := by decide +kernel
theorem dX2_swapPages_43 : decode cX2_swapPages 43 = .ok (.iload_n 1, 1) := by decide +kernel
theorem dX2_swapPages_44 : decode cX2_swapPages 44 = .ok (.iload_n 3, 1) := by decide +kernel
theorem dX2_swapPages_45 : decode cX2_swapPages 45 = .ok (.invokestatic 73, 3) := by decide +kernel
theorem dX2_swapPages_48 : decode cX2_swapPages 48 = .ok (.istore 4, 2) := by decide +kernel
theorem dX2_swapPages_50 : decode cX2_swapPages 50 = .ok (.iload_n 2, 1) := by decide +kernel
theorem dX2_swapPages_51 : decode cX2_swapPages 51 = .ok (.iload_n 3, 1) := by decide +kernel
theorem dX2_swapPages_52 : decode cX2_swapPages 52 = .ok (.invokestatic 73, 3) := by decide +kernel
theorem dX2_swapPages_55 : decode cX2_swapPages 55 = .ok (.istore 5, 2) := by decide +kernel
theorem dX2_swapPages_57 : decode cX2_swapPages 57 = .ok (.aload_n 0, 1) := by decide +kernel
theorem dX2_swapPages_58 : decode cX2_swapPages 58 = .ok (.getfield 33, 3) := by decide +kernel
theorem dX2_swapPages_61 : decode cX2_swapPages 61 = .ok (.iload 4, 2) := by decide +kernel
theorem dX2_swapPages_63 : decode cX2_swapPages 63 = .ok (.iload 5, 2) := by decide +kernel
theorem dX2_swapPages_65 : decode cX2_swapPages 65 = .ok (.invokevirtual 77, 3) := by decide +kernel
theorem dX2_swapPages_68 : decode cX2_swapPages 68 = .ok (.aload_n 0, 1) := by decide +kernel
theorem dX2_swapPages_69 : decode cX2_swapPages 69 = .ok (.getfield 36, 3) := by decide +kernel
theorem dX2_swapPages_72 : decode cX2_swapPages 72 = .ok (.iload 4, 2) := by decide +kernel
theorem dX2_swapPages_74 : decode cX2_swapPages 74 = .ok (.iload 5, 2) := by decide +kernel
theorem dX2_swapPages_76 : decode cX2_swapPages 76 = .ok (.invokevirtual 77, 3) := by decide +kernel
theorem dX2_swapPages_79 : decode cX2_swapPages 79 = .ok (.aload_n 0, 1) := by decide +kernel
theorem dX2_swapPages_80 : decode cX2_swapPages 80 = .ok (.getfield 39, 3) := by decide +kernel
theorem dX2_swapPages_83 : decode cX2_swapPages 83 = .ok (.iload 4, 2) := by decide +kernel
theorem dX2_swapPages_85 : decode cX2_swapPages 85 = .ok (.iload 5, 2) := by decide +kernel
theorem dX2_swapPages_87 : decode cX2_swapPages 87 = .ok (.invokevirtual 77, 3) := by decide +kernel
theorem dX2_swapPages_90 : decode cX2_swapPages 90 = .ok (.iinc 3 1, 3) := by decide +kernel
theorem dX2_swapPages_93 : decode cX2_swapPages 93 = .ok (.goto (-55), 3) := by decide +kernel
theorem dX2_swapPages_96 : decode cX2_swapPages 96 = .ok (.iconst 0, 1) := by decide +kernel
theorem dX2_swapPages_97 : decode cX2_swapPages 97 = .ok (.istore_n 3, 1) := by decide +kernel
theorem dX2_swapPages_98 : decode cX2_swapPages 98 = .ok (.iload_n 3, 1) := by decide +kernel
theorem dX2_swapPages_99 : decode cX2_swapPages 99 = .ok (.bipush 96, 2) := by decide +kernel
theorem dX2_swapPages_101 : decode cX2_swapPages 101 = .ok (.if_icmp .ge 30, 3) := by decide +kernel
theorem dX2_swapPages_104 : decode cX2_swapPages 104 = .ok (.aload_n 0, 1) := by decide +kernel
theorem dX2_swapPages_105 : decode cX2_swapPages 105 = .ok (.getfield 33, 3) := by decide +kernel
theorem dX2_swapPages_108 : decode cX2_swapPages 108 = .ok (.iload_n 3, 1) := by decide +kernel
theorem dX2_swapPages_109 : decode cX2_swapPages 109 = .ok (.aload_n 0, 1) := by decide +kernel
theorem dX2_swapPages_110 : decode cX2_swapPages 110 = .ok (.getfield 33, 3) := by decide +kernel
theorem dX2_swapPages_113 : decode cX2_swapPages 113 = .ok (.iload_n 3, 1) := by decide +kernel
theorem dX2_swapPages_114 : decode cX2_swapPages 114 = .ok (.invokevirtual 62, 3) := by decide +kernel
theorem dX2_swapPages_117 : decode cX2_swapPages 117 = .ok (.iload_n 1, 1) := by decide +kernel
theorem dX2_swapPages_118 : decode cX2_swapPages 118 = .ok (.iload_n 2, 1) := by decide +kernel
theorem dX2_swapPages_119 : decode cX2_swapPages 119 = .ok (.invokestatic 80, 3) := by decide +kernel
theorem dX2_swapPages_122 : decode cX2_swapPages 122 = .ok (.invokevirtual 66, 3) := by decide +kernel
theorem dX2_swapPages_125 : decode cX2_swapPages 125 = .ok (.iinc 3 1, 3) := by decide +kernel
theorem dX2_swapPages_128 : decode cX2_swapPages 128 = .ok (.goto (-30), 3) := by decide +kernel
theorem dX2_swapPages_131 : decode cX2_swapPages 131 = .ok (.iconst 0, 1) := by decide +kernel
theorem dX2_swapPages_132 : decode cX2_swapPages 132 = .ok (.istore_n 3, 1) := by decide +kernel
theorem dX2_swapPages_133 : decode cX2_swapPages 133 = .ok (.iload_n 3, 1) := by decide +kernel
theorem dX2_swapPages_134 : decode cX2_swapPages 134 = .ok (.iconst 2, 1) := by decide +kernel
theorem dX2_swapPages_135 : decode cX2_swapPages 135 = .ok (.if_icmp .ge 30, 3) := by decide +kernel
theorem dX2_swapPages_138 : decode cX2_swapPages 138 = .ok (.aload_n 0, 1) := by decide +kernel
theorem dX2_swapPages_139 : decode cX2_swapPages 139 = .ok (.getfield 42, 3) := by decide +kernel
theorem dX2_swapPages_142 : decode cX2_swapPages 142 = .ok (.iload_n 3, 1) := by decide +kernel
theorem dX2_swapPages_143 : decode cX2_swapPages 143 = .ok (.aload_n 0, 1) := by decide +kernel
theorem dX2_swapPages_144 : decode cX2_swapPages 144 = .ok (.getfield 42, 3) := by decide +kernel
theorem dX2_swapPages_147 : decode cX2_swapPages 147 = .ok (.iload_n 3, 1) := by decide +kernel
theorem dX2_swapPages_148 : decode cX2_swapPages 148 = .ok (.invokevirtual 62, 3) := by decide +kernel
theorem dX2_swapPages_151 : decode cX2_swapPages 151 = .ok (.iload_n 1, 1) := by decide +kernel
theorem dX2_swapPages_152 : decode cX2_swapPages 152 = .ok (.iload_n 2, 1) := by decide +kernel
theorem dX2_swapPages_153 : decode cX2_swapPages 153 = .ok (.invokestatic 84, 3) := by decide +kernel
theorem dX2_swapPages_156 : decode cX2_swapPages 156 = .ok (.invokevirtual 66, 3) := by decide +kernel
theorem dX2_swapPages_159 : decode cX2_swapPages 159 = .ok (.iinc 3 1, 3) := by decide +kernel
theorem dX2_swapPages_162 : decode cX2_swapPages 162 = .ok (.goto (-29), 3) := by decide +kernel
theorem dX2_swapPages_165 : decode cX2_swapPages 165 = .ok (.aload_n 0, 1) := by decide +kernel
theorem dX2_swapPages_166 : decode cX2_swapPages 166 = .ok (.aload_n 0, 1) := by decide +kernel
theorem dX2_swapPages_167 : decode cX2_swapPages 167 = .ok (.getfield 51, 3) := by decide +kernel
theorem dX2_swapPages_170 : decode cX2_swapPages 170 = .ok (.iload_n 1, 1) := by decide +kernel
theorem dX2_swapPages_171 : decode cX2_swapPages 171 = .ok (.iload_n 2, 1) := by decide +kernel
theorem dX2_swapPages_172 : decode cX2_swapPages 172 = .ok (.invokestatic 84, 3) := by decide +kernel
theorem dX2_swapPages_175 : decode cX2_swapPages 175 = .ok (.putfield 51, 3) := by decide +kernel
theorem dX2_swapPages_178 : decode cX2_swapPages 178 = .ok (.return_, 1) := by decide +kernel
theorem dX2_renumbered_0 : decode cX2_renumbered 0 = .ok (.iload_n 0, 1) := by decide +kernel
theorem dX2_renumbered_1 : decode cX2_renumbered 1 = .ok (.iload_n 1, 1) := by decide +kernel
theorem dX2_renumbered_2 : decode cX2_renumbered 2 = .ok (.if_icmp .ne 5, 3) := by decide +kernel
theorem dX2_renumbered_5 : decode cX2_renumbered 5 = .ok (.iload_n 2, 1) := by decide +kernel
theorem dX2_renumbered_6 : decode cX2_renumbered 6 = .ok (.ireturn, 1) := by decide +kernel
theorem dX2_renumbered_7 : decode cX2_renumbered 7 = .ok (.iload_n 0, 1) := by decide +kernel
theorem dX2_renumbered_8 : decode cX2_renumbered 8 = .ok (.iload_n 2, 1) := by decide +kernel
theorem dX2_renumbered_9 : decode cX2_renumbered 9 = .ok (.if_icmp .ne 7, 3) := by decide +kernel
theorem dX2_renumbered_12 : decode cX2_renumbered 12 = .ok (.iload_n 1, 1) := by decide +kernel
theorem dX2_renumbered_13 : decode cX2_renumbered 13 = .ok (.goto 4, 3) := by decide +kernel
theorem dX2_renumbered_16 : decode cX2_renumbered 16 = .ok (.iload_n 0, 1) := by decide +kernel
theorem dX2_renumbered_17 : decode cX2_renumbered 17 = .ok (.ireturn, 1) := by decide +kernel
theorem dX2_moved_0 : decode cX2_moved 0 = .ok (.iload_n 0, 1) := by decide +kernel
theorem dX2_moved_1 : decode cX2_moved 1 = .ok (.iconst (-1), 1) := by decide +kernel
theorem dX2_moved_2 : decode cX2_moved 2 = .ok (.if_icmp .ne 5, 3) := by decide +kernel
theorem dX2_moved_5 : decode cX2_moved 5 = .ok (.iconst (-1), 1) := by decide +kernel
theorem dX2_moved_6 : decode cX2_moved 6 = .ok (.ireturn, 1) := by decide +kernel
theorem dX2_moved_7 : decode cX2_moved 7 = .ok (.iload_n 0, 1) := by decide +kernel
theorem dX2_moved_8 : decode cX2_moved 8 = .ok (.invokestatic 87, 3) := by decide +kernel
theorem dX2_moved_11 : decode cX2_moved 11 = .ok (.iload_n 1, 1) := by decide +kernel
theorem dX2_moved_12 : decode cX2_moved 12 = .ok (.iload_n 2, 1) := by decide +kernel
theorem dX2_moved_13 : decode cX2_moved 13 = .ok (.invokestatic 80, 3) := by decide +kernel
theorem dX2_moved_16 : decode cX2_moved 16 = .ok (.iload_n 0, 1) := by decide +kernel
theorem dX2_moved_17 : decode cX2_moved 17 = .ok (.invokestatic 90, 3) := by decide +kernel
theorem dX2_moved_20 : decode cX2_moved 20 = .ok (.invokestatic 93, 3) := by decide +kernel
theorem dX2_moved_23 : decode cX2_moved 23 = .ok (.ireturn, 1) := by decide +kernel
theorem dX2_allChoices_0 : decode cX2_allChoices 0 = .ok (.iconst 0, 1) := by decide +kernel
theorem dX2_allChoices_1 : decode cX2_allChoices 1 = .ok (.istore_n 1, 1) := by decide +kernel
theorem dX2_allChoices_2 : decode cX2_allChoices 2 = .ok (.iconst 0, 1) := by decide +kernel
theorem dX2_allChoices_3 : decode cX2_allChoices 3 = .ok (.istore_n 2, 1) := by decide +kernel
theorem dX2_allChoices_4 : decode cX2_allChoices 4 = .ok (.iload_n 2, 1) := by decide +kernel
theorem dX2_allChoices_5 : decode cX2_allChoices 5 = .ok (.aload_n 0, 1) := by decide +kernel
theorem dX2_allChoices_6 : decode cX2_allChoices 6 = .ok (.getfield 9, 3) := by decide +kernel
theorem dX2_allChoices_9 : decode cX2_allChoices 9 = .ok (.if_icmp .ge 20, 3) := by decide +kernel
theorem dX2_allChoices_12 : decode cX2_allChoices 12 = .ok (.iload_n 1, 1) := by decide +kernel
theorem dX2_allChoices_13 : decode cX2_allChoices 13 = .ok (.aload_n 0, 1) := by decide +kernel
theorem dX2_allChoices_14 : decode cX2_allChoices 14 = .ok (.getfield 30, 3) := by decide +kernel
theorem dX2_allChoices_17 : decode cX2_allChoices 17 = .ok (.iload_n 2, 1) := by decide +kernel
theorem dX2_allChoices_18 : decode cX2_allChoices 18 = .ok (.invokevirtual 62, 3) := by decide +kernel
theorem dX2_allChoices_21 : decode cX2_allChoices 21 = .ok (.iadd, 1) := by decide +kernel
theorem dX2_allChoices_22 : decode cX2_allChoices 22 = .ok (.istore_n 1, 1) := by decide +kernel
theorem dX2_allChoices_23 : decode cX2_allChoices 23 = .ok (.iinc 2 1, 3) := by decide +kernel
theorem dX2_allChoices_26 : decode cX2_allChoices 26 = .ok (.goto (-22), 3) := by decide +kernel
theorem dX2_allChoices_29 : decode cX2_allChoices 29 = .ok (.iload_n 1, 1) := by decide +kernel
theorem dX2_allChoices_30 : decode cX2_allChoices 30 = .ok (.ireturn, 1) := by decide +kernel
theorem dX2_choicesTo_0 : decode cX2_choicesTo 0 = .ok (.iconst 0, 1) := by decide +kernel
theorem dX2_choicesTo_1 : decode cX2_choicesTo 1 = .ok (.istore_n 2, 1) := by decide +kernel
theorem dX2_choicesTo_2 : decode cX2_choicesTo 2 = .ok (.iconst 0, 1) := by decide +kernel
theorem dX2_choicesTo_3 : decode cX2_choicesTo 3 = .ok (.istore_n 3, 1) := by decide +kernel
theorem dX2_choicesTo_4 : decode cX2_choicesTo 4 = .ok (.iload_n 3, 1) := by decide +kernel
theorem dX2_choicesTo_5 : decode cX2_choicesTo 5 = .ok (.aload_n 0, 1) := by decide +kernel
theorem dX2_choicesTo_6 : decode cX2_choicesTo 6 = .ok (.getfield 9, 3) := by decide +kernel
theorem dX2_choicesTo_9 : decode cX2_choicesTo 9 = .ok (.if_icmp .ge 65, 3) := by decide +kernel
theorem dX2_choicesTo_12 : decode cX2_choicesTo 12 = .ok (.iconst 0, 1) := by decide +kernel
theorem dX2_choicesTo_13 : decode cX2_choicesTo 13 = .ok (.istore 4, 2) := by decide +kernel
theorem dX2_choicesTo_15 : decode cX2_choicesTo 15 = .ok (.iload 4, 2) := by decide +kernel
theorem dX2_choicesTo_17 : decode cX2_choicesTo 17 = .ok (.aload_n 0, 1) := by decide +kernel
theorem dX2_choicesTo_18 : decode cX2_choicesTo 18 = .ok (.getfield 30, 3) := by decide +kernel
theorem dX2_choicesTo_21 : decode cX2_choicesTo 21 = .ok (.iload_n 3, 1) := by decide +kernel
theorem dX2_choicesTo_22 : decode cX2_choicesTo 22 = .ok (.invokevirtual 62, 3) := by decide +kernel
theorem dX2_choicesTo_25 : decode cX2_choicesTo 25 = .ok (.if_icmp .ge 43, 3) := by decide +kernel
theorem dX2_choicesTo_28 : decode cX2_choicesTo 28 = .ok (.iload 4, 2) := by decide +kernel
theorem dX2_choicesTo_30 : decode cX2_choicesTo 30 = .ok (.iconst 3, 1) := by decide +kernel
theorem dX2_choicesTo_31 : decode cX2_choicesTo 31 = .ok (.if_icmp .ge 37, 3) := by decide +kernel
theorem dX2_choicesTo_34 : decode cX2_choicesTo 34 = .ok (.iload_n 2, 1) := by decide +kernel
theorem dX2_choicesTo_35 : decode cX2_choicesTo 35 = .ok (.aload_n 0, 1) := by decide +kernel
theorem dX2_choicesTo_36 : decode cX2_choicesTo 36 = .ok (.getfield 33, 3) := by decide +kernel
theorem dX2_choicesTo_39 : decode cX2_choicesTo 39 = .ok (.iload_n 3, 1) := by decide +kernel
theorem dX2_choicesTo_40 : decode cX2_choicesTo 40 = .ok (.iload 4, 2) := by decide +kernel
theorem dX2_choicesTo_42 : decode cX2_choicesTo 42 = .ok (.invokestatic 73, 3) := by decide +kernel
theorem dX2_choicesTo_45 : decode cX2_choicesTo 45 = .ok (.invokevirtual 62, 3) := by decide +kernel
theorem dX2_choicesTo_48 : decode cX2_choicesTo 48 = .ok (.iload_n 1, 1) := by decide +kernel
theorem dX2_choicesTo_49 : decode cX2_choicesTo 49 = .ok (.if_icmp .ne 7, 3) := by decide +kernel
theorem dX2_choicesTo_52 : decode cX2_choicesTo 52 = .ok (.iconst 1, 1) := by decide +kernel
theorem dX2_choicesTo_53 : decode cX2_choicesTo 53 = .ok (.goto 4, 3) := by decide +kernel
theorem dX2_choicesTo_56 : decode cX2_choicesTo 56 = .ok (.iconst 0, 1) := by decide +kernel
theorem dX2_choicesTo_57 : decode cX2_choicesTo 57 = .ok (.invokestatic 96, 3) := by decide +kernel
theorem dX2_choicesTo_60 : decode cX2_choicesTo 60 = .ok (.iadd, 1) := by decide +kernel
theorem dX2_choicesTo_61 : decode cX2_choicesTo 61 = .ok (.istore_n 2, 1) := by decide +kernel
theorem dX2_choicesTo_62 : decode cX2_choicesTo 62 = .ok (.iinc 4 1, 3) := by decide +kernel
theorem dX2_choicesTo_65 : decode cX2_choicesTo 65 = .ok (.goto (-50), 3) := by decide +kernel
theorem dX2_choicesTo_68 : decode cX2_choicesTo 68 = .ok (.iinc 3 1, 3) := by decide +kernel
theorem dX2_choicesTo_71 : decode cX2_choicesTo 71 = .ok (.goto (-67), 3) := by decide +kernel
theorem dX2_choicesTo_74 : decode cX2_choicesTo 74 = .ok (.iload_n 2, 1) := by decide +kernel
theorem dX2_choicesTo_75 : decode cX2_choicesTo 75 = .ok (.ireturn, 1) := by decide +kernel
theorem dX2_moodOf_0 : decode cX2_moodOf 0 = .ok (.aload_n 0, 1) := by decide +kernel
theorem dX2_moodOf_1 : decode cX2_moodOf 1 = .ok (.getfield 20, 3) := by decide +kernel
theorem dX2_moodOf_4 : decode cX2_moodOf 4 = .ok (.iload_n 1, 1) := by decide +kernel
theorem dX2_moodOf_5 : decode cX2_moodOf 5 = .ok (.invokevirtual 62, 3) := by decide +kernel
theorem dX2_moodOf_8 : decode cX2_moodOf 8 = .ok (.i2f, 1) := by decide +kernel
theorem dX2_moodOf_9 : decode cX2_moodOf 9 = .ok (.ldc 100, 2) := by decide +kernel
theorem dX2_moodOf_11 : decode cX2_moodOf 11 = .ok (.fdiv, 1) := by decide +kernel
theorem dX2_moodOf_12 : decode cX2_moodOf 12 = .ok (.freturn, 1) := by decide +kernel
theorem dX2_kindOf_0 : decode cX2_kindOf 0 = .ok (.aload_n 0, 1) := by decide +kernel
theorem dX2_kindOf_1 : decode cX2_kindOf 1 = .ok (.getfield 30, 3) := by decide +kernel
theorem dX2_kindOf_4 : decode cX2_kindOf 4 = .ok (.iload_n 1, 1) := by decide +kernel
theorem dX2_kindOf_5 : decode cX2_kindOf 5 = .ok (.invokevirtual 62, 3) := by decide +kernel
theorem dX2_kindOf_8 : decode cX2_kindOf 8 = .ok (.ifCond .le 5, 3) := by decide +kernel
theorem dX2_kindOf_11 : decode cX2_kindOf 11 = .ok (.iconst 0, 1) := by decide +kernel
theorem dX2_kindOf_12 : decode cX2_kindOf 12 = .ok (.ireturn, 1) := by decide +kernel
theorem dX2_kindOf_13 : decode cX2_kindOf 13 = .ok (.aload_n 0, 1) := by decide +kernel
theorem dX2_kindOf_14 : decode cX2_kindOf 14 = .ok (.iload_n 1, 1) := by decide +kernel
theorem dX2_kindOf_15 : decode cX2_kindOf 15 = .ok (.invokevirtual 101, 3) := by decide +kernel
theorem dX2_kindOf_18 : decode cX2_kindOf 18 = .ok (.fconst 0, 1) := by decide +kernel
theorem dX2_kindOf_19 : decode cX2_kindOf 19 = .ok (.fcmp .l, 1) := by decide +kernel
theorem dX2_kindOf_20 : decode cX2_kindOf 20 = .ok (.ifCond .le 7, 3) := by decide +kernel
theorem dX2_kindOf_23 : decode cX2_kindOf 23 = .ok (.iconst 1, 1) := by decide +kernel
theorem dX2_kindOf_24 : decode cX2_kindOf 24 = .ok (.goto 4, 3) := by decide +kernel
theorem dX2_kindOf_27 : decode cX2_kindOf 27 = .ok (.iconst 2, 1) := by decide +kernel
theorem dX2_kindOf_28 : decode cX2_kindOf 28 = .ok (.ireturn, 1) := by decide +kernel
theorem dX2_placeComingTo_0 : decode cX2_placeComingTo 0 = .ok (.iload_n 1, 1) := by decide +kernel
theorem dX2_placeComingTo_1 : decode cX2_placeComingTo 1 = .ok (.iload_n 2, 1) := by decide +kernel
theorem dX2_placeComingTo_2 : decode cX2_placeComingTo 2 = .ok (.aload_n 0, 1) := by decide +kernel
theorem dX2_placeComingTo_3 : decode cX2_placeComingTo 3 = .ok (.getfield 27, 3) := by decide +kernel
theorem dX2_placeComingTo_6 : decode cX2_placeComingTo 6 = .ok (.iload_n 1, 1) := by decide +kernel
theorem dX2_placeComingTo_7 : decode cX2_placeComingTo 7 = .ok (.invokevirtual 62, 3) := by decide +kernel
theorem dX2_placeComingTo_10 : decode cX2_placeComingTo 10 = .ok (.iconst (-1), 1) := by decide +kernel
theorem dX2_placeComingTo_11 : decode cX2_placeComingTo 11 = .ok (.ixor, 1) := by decide +kernel
theorem dX2_placeComingTo_12 : decode cX2_placeComingTo 12 = .ok (.iand, 1) := by decide +kernel
theorem dX2_placeComingTo_13 : decode cX2_placeComingTo 13 = .ok (.aload_n 0, 1) := by decide +kernel
theorem dX2_placeComingTo_14 : decode cX2_placeComingTo 14 = .ok (.getfield 24, 3) := by decide +kernel
theorem dX2_placeComingTo_17 : decode cX2_placeComingTo 17 = .ok (.iload_n 1, 1) := by decide +kernel
theorem dX2_placeComingTo_18 : decode cX2_placeComingTo 18 = .ok (.invokevirtual 62, 3) := by decide +kernel
theorem dX2_placeComingTo_21 : decode cX2_placeComingTo 21 = .ok (.ior, 1) := by decide +kernel
theorem dX2_placeComingTo_22 : decode cX2_placeComingTo 22 = .ok (.invokestatic 93, 3) := by decide +kernel
theorem dX2_placeComingTo_25 : decode cX2_placeComingTo 25 = .ok (.ireturn, 1) := by decide +kernel
theorem dX2_firstPlace_0 : decode cX2_firstPlace 0 = .ok (.aload_n 0, 1) := by decide +kernel
theorem dX2_firstPlace_1 : decode cX2_firstPlace 1 = .ok (.iconst 0, 1) := by decide +kernel
theorem dX2_firstPlace_2 : decode cX2_firstPlace 2 = .ok (.iconst 0, 1) := by decide +kernel
theorem dX2_firstPlace_3 : decode cX2_firstPlace 3 = .ok (.invokevirtual 105, 3) := by decide +kernel
theorem dX2_firstPlace_6 : decode cX2_firstPlace 6 = .ok (.ireturn, 1) := by decide +kernel
theorem dX2_placeBehind_0 : decode cX2_placeBehind 0 = .ok (.aload_n 0, 1) := by decide +kernel
theorem dX2_placeBehind_1 : decode cX2_placeBehind 1 = .ok (.aload_n 0, 1) := by decide +kernel
theorem dX2_placeBehind_2 : decode cX2_placeBehind 2 = .ok (.getfield 33, 3) := by decide +kernel
theorem dX2_placeBehind_5 : decode cX2_placeBehind 5 = .ok (.iload_n 1, 1) := by decide +kernel
theorem dX2_placeBehind_6 : decode cX2_placeBehind 6 = .ok (.invokestatic 87, 3) := by decide +kernel
theorem dX2_placeBehind_9 : decode cX2_placeBehind 9 = .ok (.iload_n 2, 1) := by decide +kernel
theorem dX2_placeBehind_10 : decode cX2_placeBehind 10 = .ok (.invokestatic 73, 3) := by decide +kernel
theorem dX2_placeBehind_13 : decode cX2_placeBehind 13 = .ok (.invokevirtual 62, 3) := by decide +kernel
theorem dX2_placeBehind_16 : decode cX2_placeBehind 16 = .ok (.iload_n 1, 1) := by decide +kernel
theorem dX2_placeBehind_17 : decode cX2_placeBehind 17 = .ok (.invokestatic 90, 3) := by decide +kernel
theorem dX2_placeBehind_20 : decode cX2_placeBehind 20 = .ok (.invokevirtual 105, 3) := by decide +kernel
theorem dX2_placeBehind_23 : decode cX2_placeBehind 23 = .ok (.ireturn, 1) := by decide +kernel
theorem dX2_reasonAt_0 : decode cX2_reasonAt 0 = .ok (.iload_n 1, 1) := by decide +kernel
theorem dX2_reasonAt_1 : decode cX2_reasonAt 1 = .ok (.invokestatic 87, 3) := by decide +kernel
theorem dX2_reasonAt_4 : decode cX2_reasonAt 4 = .ok (.istore_n 3, 1) := by decide +kernel
theorem dX2_reasonAt_5 : decode cX2_reasonAt 5 = .ok (.iload_n 1, 1) := by decide +kernel
theorem dX2_reasonAt_6 : decode cX2_reasonAt 6 = .ok (.invokestatic 90, 3) := by decide +kernel
theorem dX2_reasonAt_9 : decode cX2_reasonAt 9 = .ok (.istore 4, 2) := by decide +kernel
theorem dX2_reasonAt_11 : decode cX2_reasonAt 11 = .ok (.iload_n 2, 1) := by decide +kernel
theorem dX2_reasonAt_12 : decode cX2_reasonAt 12 = .ok (.ifCond .lt 15, 3) := by decide +kernel
theorem dX2_reasonAt_15 : decode cX2_reasonAt 15 = .ok (.iload_n 2, 1) := by decide +kernel
theorem dX2_reasonAt_16 : decode cX2_reasonAt 16 = .ok (.aload_n 0, 1) := by decide +kernel
theorem dX2_reasonAt_17 : decode cX2_reasonAt 17 = .ok (.getfield 30, 3) := by decide +kernel
theorem dX2_reasonAt_20 : decode cX2_reasonAt 20 = .ok (.iload_n 3, 1) := by decide +kernel
theorem dX2_reasonAt_21 : decode cX2_reasonAt 21 = .ok (.invokevirtual 62, 3) := by decide +kernel
theorem dX2_reasonAt_24 : decode cX2_reasonAt 24 = .ok (.if_icmp .lt 5, 3) := by decide +kernel
theorem dX2_reasonAt_27 : decode cX2_reasonAt 27 = .ok (.iconst 2, 1) := by decide +kernel
theorem dX2_reasonAt_28 : decode cX2_reasonAt 28 = .ok (.ireturn, 1) := by decide +kernel
theorem dX2_reasonAt_29 : decode cX2_reasonAt 29 = .ok (.iload_n 3, 1) := by decide +kernel
theorem dX2_reasonAt_30 : decode cX2_reasonAt 30 = .ok (.iload_n 2, 1) := by decide +kernel
theorem dX2_reasonAt_31 : decode cX2_reasonAt 31 = .ok (.invokestatic 73, 3) := by decide +kernel
theorem dX2_reasonAt_34 : decode cX2_reasonAt 34 = .ok (.istore 5, 2) := by decide +kernel
theorem dX2_reasonAt_36 : decode cX2_reasonAt 36 = .ok (.aload_n 0, 1) := by decide +kernel
theorem dX2_reasonAt_37 : decode cX2_reasonAt 37 = .ok (.getfield 36, 3) := by decide +kernel
theorem dX2_reasonAt_40 : decode cX2_reasonAt 40 = .ok (.iload 5, 2) := by decide +kernel
theorem dX2_reasonAt_42 : decode cX2_reasonAt 42 = .ok (.invokevirtual 62, 3) := by decide +kernel
theorem dX2_reasonAt_45 : decode cX2_reasonAt 45 = .ok (.iload 4, 2) := by decide +kernel
theorem dX2_reasonAt_47 : decode cX2_reasonAt 47 = .ok (.iconst (-1), 1) := by decide +kernel
theorem dX2_reasonAt_48 : decode cX2_reasonAt 48 = .ok (.ixor, 1) := by decide +kernel
theorem dX2_reasonAt_49 : decode cX2_reasonAt 49 = .ok (.iand, 1) := by decide +kernel
theorem dX2_reasonAt_50 : decode cX2_reasonAt 50 = .ok (.ifCond .eq 5, 3) := by decide +kernel
theorem dX2_reasonAt_53 : decode cX2_reasonAt 53 = .ok (.iconst 3, 1) := by decide +kernel
theorem dX2_reasonAt_54 : decode cX2_reasonAt 54 = .ok (.ireturn, 1) := by decide +kernel
theorem dX2_reasonAt_55 : decode cX2_reasonAt 55 = .ok (.aload_n 0, 1) := by decide +kernel
theorem dX2_reasonAt_56 : decode cX2_reasonAt 56 = .ok (.getfield 39, 3) := by decide +kernel
theorem dX2_reasonAt_59 : decode cX2_reasonAt 59 = .ok (.iload 5, 2) := by decide +kernel
theorem dX2_reasonAt_61 : decode cX2_reasonAt 61 = .ok (.invokevirtual 62, 3) := by decide +kernel
theorem dX2_reasonAt_64 : decode cX2_reasonAt 64 = .ok (.iload 4, 2) := by decide +kernel
theorem dX2_reasonAt_66 : decode cX2_reasonAt 66 = .ok (.iand, 1) := by decide +kernel
theorem dX2_reasonAt_67 : decode cX2_reasonAt 67 = .ok (.ifCond .eq 7, 3) := by decide +kernel
theorem dX2_reasonAt_70 : decode cX2_reasonAt 70 = .ok (.iconst 4, 1) := by decide +kernel
theorem dX2_reasonAt_71 : decode cX2_reasonAt 71 = .ok (.goto 4, 3) := by decide +kernel
theorem dX2_reasonAt_74 : decode cX2_reasonAt 74 = .ok (.iconst 0, 1) := by decide +kernel
theorem dX2_reasonAt_75 : decode cX2_reasonAt 75 = .ok (.ireturn, 1) := by decide +kernel
theorem dX2_reasonAgainst_0 : decode cX2_reasonAgainst 0 = .ok (.aload_n 0, 1) := by decide +kernel
theorem dX2_reasonAgainst_1 : decode cX2_reasonAgainst 1 = .ok (.getfield 42, 3) := by decide +kernel
theorem dX2_reasonAgainst_4 : decode cX2_reasonAgainst 4 = .ok (.iload_n 1, 1) := by decide +kernel
theorem dX2_reasonAgainst_5 : decode cX2_reasonAgainst 5 = .ok (.invokevirtual 62, 3) := by decide +kernel
theorem dX2_reasonAgainst_8 : decode cX2_reasonAgainst 8 = .ok (.istore_n 3, 1) := by decide +kernel
theorem dX2_reasonAgainst_9 : decode cX2_reasonAgainst 9 = .ok (.iload_n 3, 1) := by decide +kernel
theorem dX2_reasonAgainst_10 : decode cX2_reasonAgainst 10 = .ok (.iconst (-1), 1) := by decide +kernel
theorem dX2_reasonAgainst_11 : decode cX2_reasonAgainst 11 = .ok (.if_icmp .ne 7, 3) := by decide +kernel
theorem dX2_reasonAgainst_14 : decode cX2_reasonAgainst 14 = .ok (.iconst 1, 1) := by decide +kernel
theorem dX2_reasonAgainst_15 : decode cX2_reasonAgainst 15 = .ok (.goto 9, 3) := by decide +kernel
theorem dX2_reasonAgainst_18 : decode cX2_reasonAgainst 18 = .ok (.aload_n 0, 1) := by decide +kernel
theorem dX2_reasonAgainst_19 : decode cX2_reasonAgainst 19 = .ok (.iload_n 3, 1) := by decide +kernel
theorem dX2_reasonAgainst_20 : decode cX2_reasonAgainst 20 = .ok (.iload_n 2, 1) := by decide +kernel
theorem dX2_reasonAgainst_21 : decode cX2_reasonAgainst 21 = .ok (.invokevirtual 108, 3) := by decide +kernel
theorem dX2_reasonAgainst_24 : decode cX2_reasonAgainst 24 = .ok (.ireturn, 1) := by decide +kernel
theorem dX2_openChoices_0 : decode cX2_openChoices 0 = .ok (.iconst 0, 1) := by decide +kernel
theorem dX2_openChoices_1 : decode cX2_openChoices 1 = .ok (.istore_n 2, 1) := by decide +kernel
theorem dX2_openChoices_2 : decode cX2_openChoices 2 = .ok (.iconst 0, 1) := by decide +kernel
theorem dX2_openChoices_3 : decode cX2_openChoices 3 = .ok (.istore_n 3, 1) := by decide +kernel
theorem dX2_openChoices_4 : decode cX2_openChoices 4 = .ok (.iload_n 3, 1) := by decide +kernel
theorem dX2_openChoices_5 : decode cX2_openChoices 5 = .ok (.iconst 3, 1) := by decide +kernel
theorem dX2_openChoices_6 : decode cX2_openChoices 6 = .ok (.if_icmp .ge 24, 3) := by decide +kernel
theorem dX2_openChoices_9 : decode cX2_openChoices 9 = .ok (.aload_n 0, 1) := by decide +kernel
theorem dX2_openChoices_10 : decode cX2_openChoices 10 = .ok (.iload_n 1, 1) := by decide +kernel
theorem dX2_openChoices_11 : decode cX2_openChoices 11 = .ok (.iload_n 3, 1) := by decide +kernel
theorem dX2_openChoices_12 : decode cX2_openChoices 12 = .ok (.invokevirtual 108, 3) := by decide +kernel
theorem dX2_openChoices_15 : decode cX2_openChoices 15 = .ok (.ifCond .ne 9, 3) := by decide +kernel
theorem dX2_openChoices_18 : decode cX2_openChoices 18 = .ok (.iload_n 2, 1) := by decide +kernel
theorem dX2_openChoices_19 : decode cX2_openChoices 19 = .ok (.iconst 1, 1) := by decide +kernel
theorem dX2_openChoices_20 : decode cX2_openChoices 20 = .ok (.iload_n 3, 1) := by decide +kernel
theorem dX2_openChoices_21 : decode cX2_openChoices 21 = .ok (.ishl, 1) := by decide +kernel
theorem dX2_openChoices_22 : decode cX2_openChoices 22 = .ok (.ior, 1) := by decide +kernel
theorem dX2_openChoices_23 : decode cX2_openChoices 23 = .ok (.istore_n 2, 1) := by decide +kernel
theorem dX2_openChoices_24 : decode cX2_openChoices 24 = .ok (.iinc 3 1, 3) := by decide +kernel
theorem dX2_openChoices_27 : decode cX2_openChoices 27 = .ok (.goto (-23), 3) := by decide +kernel
theorem dX2_openChoices_30 : decode cX2_openChoices 30 = .ok (.iload_n 2, 1) := by decide +kernel
theorem dX2_openChoices_31 : decode cX2_openChoices 31 = .ok (.ireturn, 1) := by decide +kernel
theorem dX2_putReader_0 : decode cX2_putReader 0 = .ok (.aload_n 0, 1) := by decide +kernel
theorem dX2_putReader_1 : decode cX2_putReader 1 = .ok (.getfield 42, 3) := by decide +kernel
theorem dX2_putReader_4 : decode cX2_putReader 4 = .ok (.iload_n 1, 1) := by decide +kernel
theorem dX2_putReader_5 : decode cX2_putReader 5 = .ok (.iload_n 2, 1) := by decide +kernel
theorem dX2_putReader_6 : decode cX2_putReader 6 = .ok (.invokevirtual 66, 3) := by decide +kernel
theorem dX2_putReader_9 : decode cX2_putReader 9 = .ok (.aload_n 0, 1) := by decide +kernel
theorem dX2_putReader_10 : decode cX2_putReader 10 = .ok (.getfield 48, 3) := by decide +kernel
theorem dX2_putReader_13 : decode cX2_putReader 13 = .ok (.iload_n 1, 1) := by decide +kernel
theorem dX2_putReader_14 : decode cX2_putReader 14 = .ok (.iload_n 3, 1) := by decide +kernel
theorem dX2_putReader_15 : decode cX2_putReader 15 = .ok (.invokevirtual 66, 3) := by decide +kernel
theorem dX2_putReader_18 : decode cX2_putReader 18 = .ok (.return_, 1) := by decide +kernel
theorem dX3_init_0 : decode cX3_init 0 = .ok (.aload_n 0, 1) := by decide +kernel
theorem dX3_init_1 : decode cX3_init 1 = .ok (.invokespecial 3, 3) := by decide +kernel
theorem dX3_init_4 : decode cX3_init 4 = .ok (.aload_n 0, 1) := by decide +kernel
theorem dX3_init_5 : decode cX3_init 5 = .ok (.iconst 0, 1) := by decide +kernel
theorem dX3_init_6 : decode cX3_init 6 = .ok (.putfield 9, 3) := by decide +kernel
theorem dX3_init_9 : decode cX3_init 9 = .ok (.aload_n 0, 1) := by decide +kernel
theorem dX3_init_10 : decode cX3_init 10 = .ok (.iconst 0, 1) := by decide +kernel
theorem dX3_init_11 : decode cX3_init 11 = .ok (.putfield 15, 3) := by decide +kernel
theorem dX3_init_14 : decode cX3_init 14 = .ok (.aload_n 0, 1) := by decide +kernel
theorem dX3_init_15 : decode cX3_init 15 = .ok (.iconst 0, 1) := by decide +kernel
theorem dX3_init_16 : decode cX3_init 16 = .ok (.putfield 19, 3) := by decide +kernel
theorem dX3_init_19 : decode cX3_init 19 = .ok (.aload_n 0, 1) := by decide +kernel
theorem dX3_init_20 : decode cX3_init 20 = .ok (.new 22, 3) := by decide +kernel
theorem dX3_init_23 : decode cX3_init 23 = .ok (.dup, 1) := by decide +kernel
theorem dX3_init_24 : decode cX3_init 24 = .ok (.sipush 1024, 3) := by decide +kernel
theorem dX3_init_27 : decode cX3_init 27 = .ok (.invokespecial 24, 3) := by decide +kernel
theorem dX3_init_30 : decode cX3_init 30 = .ok (.putfield 27, 3) := by decide +kernel
theorem dX3_init_33 : decode cX3_init 33 = .ok (.aload_n 0, 1) := by decide +kernel
theorem dX3_init_34 : decode cX3_init 34 = .ok (.new 22, 3) := by decide +kernel
theorem dX3_init_37 : decode cX3_init 37 = .ok (.dup, 1) := by decide +kernel
theorem dX3_init_38 : decode cX3_init 38 = .ok (.sipush 1024, 3) := by decide +kernel
theorem dX3_init_41 : decode cX3_init 41 = .ok (.invokespecial 24, 3) := by decide +kernel
theorem dX3_init_44 : decode cX3_init 44 = .ok (.putfield 31, 3) := by decide +kernel
theorem dX3_init_47 : decode cX3_init 47 = .ok (.aload_n 0, 1) := by decide +kernel
theorem dX3_init_48 : decode cX3_init 48 = .ok (.new 22, 3) := by decide +kernel
theorem dX3_init_51 : decode cX3_init 51 = .ok (.dup, 1) := by decide +kernel
theorem dX3_init_52 : decode cX3_init 52 = .ok (.sipush 1024, 3) := by decide +kernel
theorem dX3_init_55 : decode cX3_init 55 = .ok (.invokespecial 24, 3) := by decide +kernel
theorem dX3_init_58 : decode cX3_init 58 = .ok (.putfield 34, 3) := by decide +kernel
theorem dX3_init_61 : decode cX3_init 61 = .ok (.aload_n 0, 1) := by decide +kernel
theorem dX3_init_62 : decode cX3_init 62 = .ok (.new 22, 3) := by decide +kernel
theorem dX3_init_65 : decode cX3_init 65 = .ok (.dup, 1) := by decide +kernel
theorem dX3_init_66 : decode cX3_init 66 = .ok (.sipush 1024, 3) := by decide +kernel
theorem dX3_init_69 : decode cX3_init 69 = .ok (.invokespecial 24, 3) := by decide +kernel
theorem dX3_init_72 : decode cX3_init 72 = .ok (.putfield 37, 3) := by decide +kernel
theorem dX3_init_75 : decode cX3_init 75 = .ok (.aload_n 0, 1) := by decide +kernel
theorem dX3_init_76 : decode cX3_init 76 = .ok (.new 22, 3) := by decide +kernel
theorem dX3_init_79 : decode cX3_init 79 = .ok (.dup, 1) := by decide +kernel
theorem dX3_init_80 : decode cX3_init 80 = .ok (.sipush 1024, 3) := by decide +kernel
theorem dX3_init_83 : decode cX3_init 83 = .ok (.invokespecial 24, 3) := by decide +kernel
theorem dX3_init_86 : decode cX3_init 86 = .ok (.putfield 40, 3) := by decide +kernel
theorem dX3_init_89 : decode cX3_init 89 = .ok (.aload_n 0, 1) := by decide +kernel
theorem dX3_init_90 : decode cX3_init 90 = .ok (.iconst 0, 1) := by decide +kernel
theorem dX3_init_91 : decode cX3_init 91 = .ok (.putfield 43, 3) := by decide +kernel
theorem dX3_init_94 : decode cX3_init 94 = .ok (.aload_n 0, 1) := by decide +kernel
theorem dX3_init_95 : decode cX3_init 95 = .ok (.iconst 0, 1) := by decide +kernel
theorem dX3_init_96 : decode cX3_init 96 = .ok (.putfield 46, 3) := by decide +kernel
theorem dX3_init_99 : decode cX3_init 99 = .ok (.aload_n 0, 1) := by decide +kernel
theorem dX3_init_100 : decode cX3_init 100 = .ok (.iconst (-1), 1) := by decide +kernel
theorem dX3_init_101 : decode cX3_init 101 = .ok (.putfield 49, 3) := by decide +kernel
theorem dX3_init_104 : decode cX3_init 104 = .ok (.aload_n 0, 1) := by decide +kernel
theorem dX3_init_105 : decode cX3_init 105 = .ok (.new 22, 3) := by decide +kernel
theorem dX3_init_108 : decode cX3_init 108 = .ok (.dup, 1) := by decide +kernel
theorem dX3_init_109 : decode cX3_init 109 = .ok (.sipush 1024, 3) := by decide +kernel
theorem dX3_init_112 : decode cX3_init 112 = .ok (.invokespecial 24, 3) := by decide +kernel
theorem dX3_init_115 : decode cX3_init 115 = .ok (.putfield 52, 3) := by decide +kernel
theorem dX3_init_118 : decode cX3_init 118 = .ok (.return_, 1) := by decide +kernel
theorem dX3_make_0 : decode cX3_make 0 = .ok (.aload_n 0, 1) := by decide +kernel
theorem dX3_make_1 : decode cX3_make 1 = .ok (.aload_n 1, 1) := by decide +kernel
theorem dX3_make_2 : decode cX3_make 2 = .ok (.getfield 55, 3) := by decide +kernel
theorem dX3_make_5 : decode cX3_make 5 = .ok (.putfield 15, 3) := by decide +kernel
theorem dX3_make_8 : decode cX3_make 8 = .ok (.aload_n 0, 1) := by decide +kernel
theorem dX3_make_9 : decode cX3_make 9 = .ok (.aload_n 1, 1) := by decide +kernel
theorem dX3_make_10 : decode cX3_make 10 = .ok (.invokevirtual 58, 3) := by decide +kernel
theorem dX3_make_13 : decode cX3_make 13 = .ok (.aload_n 0, 1) := by decide +kernel
theorem dX3_make_14 : decode cX3_make 14 = .ok (.aload_n 1, 1) := by decide +kernel
theorem dX3_make_15 : decode cX3_make 15 = .ok (.invokevirtual 62, 3) := by decide +kernel
theorem dX3_make_18 : decode cX3_make 18 = .ok (.aload_n 0, 1) := by decide +kernel
theorem dX3_make_19 : decode cX3_make 19 = .ok (.aload_n 1, 1) := by decide +kernel
theorem dX3_make_20 : decode cX3_make 20 = .ok (.invokevirtual 65, 3) := by decide +kernel
theorem dX3_make_23 : decode cX3_make 23 = .ok (.aload_n 0, 1) := by decide +kernel
theorem dX3_make_24 : decode cX3_make 24 = .ok (.invokevirtual 68, 3) := by decide +kernel
theorem dX3_make_27 : decode cX3_make 27 = .ok (.aload_n 0, 1) := by decide +kernel
theorem dX3_make_28 : decode cX3_make 28 = .ok (.iconst 1, 1) := by decide +kernel
theorem dX3_make_29 : decode cX3_make 29 = .ok (.putfield 9, 3) := by decide +kernel
theorem dX3_make_32 : decode cX3_make 32 = .ok (.return_, 1) := by decide +kernel
theorem dX3_findPlaces_0 : decode cX3_findPlaces 0 = .ok (.aload_n 0, 1) := by decide +kernel
theorem dX3_findPlaces_1 : decode cX3_findPlaces 1 = .ok (.iconst 0, 1) := by decide +kernel
theorem dX3_findPlaces_2 : decode cX3_findPlaces 2 = .ok (.putfield 19, 3) := by decide +kernel
theorem dX3_findPlaces_5 : decode cX3_findPlaces 5 = .ok (.aload_n 0, 1) := by decide +kernel
theorem dX3_findPlaces_6 : decode cX3_findPlaces 6 = .ok (.getfield 31, 3) := by decide +kernel
theorem dX3_findPlaces_9 : decode cX3_findPlaces 9 = .ok (.iconst (-1), 1) := by decide +kernel
theorem dX3_findPlaces_10 : decode cX3_findPlaces 10 = .ok (.invokevirtual 71, 3) := by decide +kernel
theorem dX3_findPlaces_13 : decode cX3_findPlaces 13 = .ok (.aload_n 1, 1) := by decide +kernel
theorem dX3_findPlaces_14 : decode cX3_findPlaces 14 = .ok (.getfield 55, 3) := by decide +kernel
theorem dX3_findPlaces_17 : decode cX3_findPlaces 17 = .ok (.ifCond .ne 4, 3) := by decide +kernel
theorem dX3_findPlaces_20 : decode cX3_findPlaces 20 = .ok (.return_, 1) := by decide +kernel
theorem dX3_findPlaces_21 : decode cX3_findPlaces 21 = .ok (.aload_n 0, 1) := by decide +kernel
theorem dX3_findPlaces_22 : decode cX3_findPlaces 22 = .ok (.aload_n 1, 1) := by decide +kernel
theorem dX3_findPlaces_23 : decode cX3_findPlaces 23 = .ok (.invokevirtual 74, 3) := by decide +kernel
theorem dX3_findPlaces_26 : decode cX3_findPlaces 26 = .ok (.iconst 0, 1) := by decide +kernel
theorem dX3_findPlaces_27 : decode cX3_findPlaces 27 = .ok (.iconst (-1), 1) := by decide +kernel
theorem dX3_findPlaces_28 : decode cX3_findPlaces 28 = .ok (.iconst (-1), 1) := by decide +kernel
theorem dX3_findPlaces_29 : decode cX3_findPlaces 29 = .ok (.invokevirtual 78, 3) := by decide +kernel
theorem dX3_findPlaces_32 : decode cX3_findPlaces 32 = .ok (.iconst 0, 1) := by decide +kernel
theorem dX3_findPlaces_33 : decode cX3_findPlaces 33 = .ok (.istore_n 2, 1) := by decide +kernel
theorem dX3_findPlaces_34 : decode cX3_findPlaces 34 = .ok (.iload_n 2, 1) := by decide +kernel
theorem dX3_findPlaces_35 : decode cX3_findPlaces 35 = .ok (.aload_n 0, 1) := by decide +kernel
theorem dX3_findPlaces_36 : decode cX3_findPlaces 36 = .ok (.getfield 19, 3) := by decide +kernel
theorem dX3_findPlaces_39 : decode cX3_findPlaces 39 = .ok (.if_icmp .ge 85, 3) := by decide +kernel
theorem dX3_findPlaces_42 : decode cX3_findPlaces 42 = .ok (.iload_n 2, 1) := by decide +kernel
theorem dX3_findPlaces_43 : decode cX3_findPlaces 43 = .ok (.sipush 1024, 3) := by decide +kernel
theorem dX3_findPlaces_46 : decode cX3_findPlaces 46 = .ok (.if_icmp .ge 78, 3) := by decide +kernel
theorem dX3_findPlaces_49 : decode cX3_findPlaces 49 = .ok (.aload_n 0, 1) := by decide +kernel
theorem dX3_findPlaces_50 : decode cX3_findPlaces 50 = .ok (.getfield 27, 3) := by decide +kernel
theorem dX3_findPlaces_53 : decode cX3_findPlaces 53 = .ok (.iload_n 2, 1) := by decide +kernel
theorem dX3_findPlaces_54 : decode cX3_findPlaces 54 = .ok (.invokevirtual 82, 3) := by decide +kernel
theorem dX3_findPlaces_57 : decode cX3_findPlaces 57 = .ok (.istore_n 3, 1) := by decide +kernel
theorem dX3_findPlaces_58 : decode cX3_findPlaces 58 = .ok (.aload_n 1, 1) := by decide +kernel
theorem dX3_findPlaces_59 : decode cX3_findPlaces 59 = .ok (.iload_n 3, 1) := by decide +kernel
theorem dX3_findPlaces_60 : decode cX3_findPlaces 60 = .ok (.invokevirtual 86, 3) := by decide +kernel
theorem dX3_findPlaces_63 : decode cX3_findPlaces 63 = .ok (.istore 4, 2) := by decide +kernel
theorem dX3_findPlaces_65 : decode cX3_findPlaces 65 = .ok (.iconst 0, 1) := by decide +kernel
theorem dX3_findPlaces_66 : decode cX3_findPlaces 66 = .ok (.istore 5, 2) := by decide +kernel
theorem dX3_findPlaces_68 : decode cX3_findPlaces 68 = .ok (.iload 5, 2) := by decide +kernel
theorem dX3_findPlaces_70 : decode cX3_findPlaces 70 = .ok (.iconst 3, 1) := by decide +kernel
theorem dX3_findPlaces_71 : decode cX3_findPlaces 71 = .ok (.if_icmp .ge 47, 3) := by decide +kernel
theorem dX3_findPlaces_74 : decode cX3_findPlaces 74 = .ok (.iload 5, 2) := by decide +kernel
theorem dX3_findPlaces_76 : decode cX3_findPlaces 76 = .ok (.iload 4, 2) := by decide +kernel
theorem dX3_findPlaces_78 : decode cX3_findPlaces 78 = .ok (.invokestatic 89, 3) := by decide +kernel
theorem dX3_findPlaces_81 : decode cX3_findPlaces 81 = .ok (.ifCond .eq 31, 3) := by decide +kernel
theorem dX3_findPlaces_84 : decode cX3_findPlaces 84 = .ok (.aload_n 1, 1) := by decide +kernel
theorem dX3_findPlaces_85 : decode cX3_findPlaces 85 = .ok (.iload_n 3, 1) := by decide +kernel
theorem dX3_findPlaces_86 : decode cX3_findPlaces 86 = .ok (.iload 5, 2) := by decide +kernel
theorem dX3_findPlaces_88 : decode cX3_findPlaces 88 = .ok (.invokevirtual 93, 3) := by decide +kernel
theorem dX3_findPlaces_91 : decode cX3_findPlaces 91 = .ok (.istore 6, 2) := by decide +kernel
theorem dX3_findPlaces_93 : decode cX3_findPlaces 93 = .ok (.aload_n 0, 1) := by decide +kernel
theorem dX3_findPlaces_94 : decode cX3_findPlaces 94 = .ok (.iload 6, 2) := by decide +kernel
theorem dX3_findPlaces_96 : decode cX3_findPlaces 96 = .ok (.aload_n 0, 1) := by decide +kernel
theorem dX3_findPlaces_97 : decode cX3_findPlaces 97 = .ok (.getfield 31, 3) := by decide +kernel
theorem dX3_findPlaces_100 : decode cX3_findPlaces 100 = .ok (.iload_n 3, 1) := by decide +kernel
theorem dX3_findPlaces_101 : decode cX3_findPlaces 101 = .ok (.invokevirtual 82, 3) := by decide +kernel
theorem dX3_findPlaces_104 : decode cX3_findPlaces 104 = .ok (.iconst 1, 1) := by decide +kernel
theorem dX3_findPlaces_105 : decode cX3_findPlaces 105 = .ok (.iadd, 1) := by decide +kernel
theorem dX3_findPlaces_106 : decode cX3_findPlaces 106 = .ok (.iload_n 3, 1) := by decide +kernel
theorem dX3_findPlaces_107 : decode cX3_findPlaces 107 = .ok (.iload 5, 2) := by decide +kernel
theorem dX3_findPlaces_109 : decode cX3_findPlaces 109 = .ok (.invokevirtual 78, 3) := by decide +kernel
theorem dX3_findPlaces_112 : decode cX3_findPlaces 112 = .ok (.iinc 5 1, 3) := by decide +kernel
theorem dX3_findPlaces_115 : decode cX3_findPlaces 115 = .ok (.goto (-47), 3) := by decide +kernel
theorem dX3_findPlaces_118 : decode cX3_findPlaces 118 = .ok (.iinc 2 1, 3) := by decide +kernel
theorem dX3_findPlaces_121 : decode cX3_findPlaces 121 = .ok (.goto (-87), 3) := by decide +kernel
theorem dX3_findPlaces_124 : decode cX3_findPlaces 124 = .ok (.return_, 1) := by decide +kernel
theorem dX3_addPlace_0 : decode cX3_addPlace 0 = .ok (.aload_n 0, 1) := by decide +kernel
theorem dX3_addPlace_1 : decode cX3_addPlace 1 = .ok (.iload_n 1, 1) := by decide +kernel
theorem dX3_addPlace_2 : decode cX3_addPlace 2 = .ok (.invokevirtual 97, 3) := by decide +kernel
theorem dX3_addPlace_5 : decode cX3_addPlace 5 = .ok (.ifCond .ne 13, 3) := by decide +kernel
theorem dX3_addPlace_8 : decode cX3_addPlace 8 = .ok (.aload_n 0, 1) := by decide +kernel
theorem dX3_addPlace_9 : decode cX3_addPlace 9 = .ok (.getfield 19, 3) := by decide +kernel
theorem dX3_addPlace_12 : decode cX3_addPlace 12 = .ok (.sipush 1024, 3) := by decide +kernel
theorem dX3_addPlace_15 : decode cX3_addPlace 15 = .ok (.if_icmp .lt 4, 3) := by decide +kernel
theorem dX3_addPlace_18 : decode cX3_addPlace 18 = .ok (.return_, 1) := by decide +kernel
theorem dX3_addPlace_19 : decode cX3_addPlace 19 = .ok (.aload_n 0, 1) := by decide +kernel
theorem dX3_addPlace_20 : decode cX3_addPlace 20 = .ok (.getfield 27, 3) := by decide +kernel
theorem dX3_addPlace_23 : decode cX3_addPlace 23 = .ok (.aload_n 0, 1) := by decide +kernel
theorem dX3_addPlace_24 : decode cX3_addPlace 24 = .ok (.getfield 19, 3) := by decide +kernel
theorem dX3_addPlace_27 : decode cX3_addPlace 27 = .ok (.iload_n 1, 1) := by decide +kernel
theorem dX3_addPlace_28 : decode cX3_addPlace 28 = .ok (.invokevirtual 101, 3) := by decide +kernel
theorem dX3_addPlace_31 : decode cX3_addPlace 31 = .ok (.aload_n 0, 1) := by decide +kernel
theorem dX3_addPlace_32 : decode cX3_addPlace 32 = .ok (.aload_n 0, 1) := by decide +kernel
theorem dX3_addPlace_33 : decode cX3_addPlace 33 = .ok (.getfield 19, 3) := by decide +kernel
theorem dX3_addPlace_36 : decode cX3_addPlace 36 = .ok (.iconst 1, 1) := by decide +kernel
theorem dX3_addPlace_37 : decode cX3_addPlace 37 = .ok (.iadd, 1) := by decide +kernel
theorem dX3_addPlace_38 : decode cX3_addPlace 38 = .ok (.putfield 19, 3) := by decide +kernel
theorem dX3_addPlace_41 : decode cX3_addPlace 41 = .ok (.aload_n 0, 1) := by decide +kernel
theorem dX3_addPlace_42 : decode cX3_addPlace 42 = .ok (.getfield 31, 3) := by decide +kernel
theorem dX3_addPlace_45 : decode cX3_addPlace 45 = .ok (.iload_n 1, 1) := by decide +kernel
theorem dX3_addPlace_46 : decode cX3_addPlace 46 = .ok (.iload_n 2, 1) := by decide +kernel
theorem dX3_addPlace_47 : decode cX3_addPlace 47 = .ok (.invokevirtual 101, 3) := by decide +kernel
theorem dX3_addPlace_50 : decode cX3_addPlace 50 = .ok (.aload_n 0, 1) := by decide +kernel
theorem dX3_addPlace_51 : decode cX3_addPlace 51 = .ok (.getfield 34, 3) := by decide +kernel
theorem dX3_addPlace_54 : decode cX3_addPlace 54 = .ok (.iload_n 1, 1) := by decide +kernel
theorem dX3_addPlace_55 : decode cX3_addPlace 55 = .ok (.iload_n 3, 1) := by decide +kernel
theorem dX3_addPlace_56 : decode cX3_addPlace 56 = .ok (.invokevirtual 101, 3) := by decide +kernel
theorem dX3_addPlace_59 : decode cX3_addPlace 59 = .ok (.aload_n 0, 1) := by decide +kernel
theorem dX3_addPlace_60 : decode cX3_addPlace 60 = .ok (.getfield 37, 3) := by decide +kernel
theorem dX3_addPlace_63 : decode cX3_addPlace 63 = .ok (.iload_n 1, 1) := by decide +kernel
theorem dX3_addPlace_64 : decode cX3_addPlace 64 = .ok (.iload 4, 2) := by decide +kernel
theorem dX3_addPlace_66 : decode cX3_addPlace 66 = .ok (.invokevirtual 101, 3) := by decide +kernel
theorem dX3_addPlace_69 : decode cX3_addPlace 69 = .ok (.aload_n 0, 1) := by decide +kernel
theorem dX3_addPlace_70 : decode cX3_addPlace 70 = .ok (.getfield 40, 3) := by decide +kernel
theorem dX3_addPlace_73 : decode cX3_addPlace 73 = .ok (.iload_n 1, 1) := by decide +kernel
theorem dX3_addPlace_74 : decode cX3_addPlace 74 = .ok (.iconst 0, 1) := by decide +kernel
theorem dX3_addPlace_75 : decode cX3_addPlace 75 = .ok (.invokevirtual 101, 3) := by decide +kernel
theorem dX3_addPlace_78 : decode cX3_addPlace 78 = .ok (.return_, 1) := by decide +kernel
theorem dX3_findAhead_0 : decode cX3_findAhead 0 = .ok (.iconst 1, 1) := by decide +kernel
theorem dX3_findAhead_1 : decode cX3_findAhead 1 = .ok (.istore_n 2, 1) := by decide +kernel
theorem dX3_findAhead_2 : decode cX3_findAhead 2 = .ok (.iconst 0, 1) := by decide +kernel
theorem dX3_findAhead_3 : decode cX3_findAhead 3 = .ok (.istore_n 3, 1) := by decide +kernel
theorem dX3_findAhead_4 : decode cX3_findAhead 4 = .ok (.iload_n 2, 1) := by decide +kernel
theorem dX3_findAhead_5 : decode cX3_findAhead 5 = .ok (.ifCond .eq 22, 3) := by decide +kernel
theorem dX3_findAhead_8 : decode cX3_findAhead 8 = .ok (.iload_n 3, 1) := by decide +kernel
theorem dX3_findAhead_9 : decode cX3_findAhead 9 = .ok (.sipush 1024, 3) := by decide +kernel
theorem dX3_findAhead_12 : decode cX3_findAhead 12 = .ok (.if_icmp .gt 15, 3) := by decide +kernel
theorem dX3_findAhead_15 : decode cX3_findAhead 15 = .ok (.aload_n 0, 1) := by decide +kernel
theorem dX3_findAhead_16 : decode cX3_findAhead 16 = .ok (.aload_n 1, 1) := by decide +kernel
theorem dX3_findAhead_17 : decode cX3_findAhead 17 = .ok (.invokevirtual 105, 3) := by decide +kernel
theorem dX3_findAhead_20 : decode cX3_findAhead 20 = .ok (.istore_n 2, 1) := by decide +kernel
theorem dX3_findAhead_21 : decode cX3_findAhead 21 = .ok (.iinc 3 1, 3) := by decide +kernel
theorem dX3_findAhead_24 : decode cX3_findAhead 24 = .ok (.goto (-20), 3) := by decide +kernel
theorem dX3_findAhead_27 : decode cX3_findAhead 27 = .ok (.return_, 1) := by decide +kernel
theorem dX3_growAhead_0 : decode cX3_growAhead 0 = .ok (.iconst 0, 1) := by decide +kernel
theorem dX3_growAhead_1 : decode cX3_growAhead 1 = .ok (.istore_n 2, 1) := by decide +kernel
theorem dX3_growAhead_2 : decode cX3_growAhead 2 = .ok (.aload_n 0, 1) := by decide +kernel
theorem dX3_growAhead_3 : decode cX3_growAhead 3 = .ok (.getfield 19, 3) := by decide +kernel
theorem dX3_growAhead_6 : decode cX3_growAhead 6 = .ok (.iconst 1, 1) := by decide +kernel
theorem dX3_growAhead_7 : decode cX3_growAhead 7 = .ok (.isub, 1) := by decide +kernel
theorem dX3_growAhead_8 : decode cX3_growAhead 8 = .ok (.istore_n 3, 1) := by decide +kernel
theorem dX3_growAhead_9 : decode cX3_growAhead 9 = .ok (.iload_n 3, 1) := by decide +kernel
theorem dX3_growAhead_10 : decode cX3_growAhead 10 = .ok (.ifCond .lt 130, 3) := by decide +kernel
theorem dX3_growAhead_13 : decode cX3_growAhead 13 = .ok (.aload_n 0, 1) := by decide +kernel
theorem dX3_growAhead_14 : decode cX3_growAhead 14 = .ok (.getfield 27, 3) := by decide +kernel
theorem dX3_growAhead_17 : decode cX3_growAhead 17 = .ok (.iload_n 3, 1) := by decide +kernel
theorem dX3_growAhead_18 : decode cX3_growAhead 18 = .ok (.invokevirtual 82, 3) := by decide +kernel
theorem dX3_growAhead_21 : decode cX3_growAhead 21 = .ok (.istore 4, 2) := by decide +kernel
theorem dX3_growAhead_23 : decode cX3_growAhead 23 = .ok (.aload_n 1, 1) := by decide +kernel
theorem dX3_growAhead_24 : decode cX3_growAhead 24 = .ok (.iload 4, 2) := by decide +kernel
theorem dX3_growAhead_26 : decode cX3_growAhead 26 = .ok (.invokevirtual 86, 3) := by decide +kernel
theorem dX3_growAhead_29 : decode cX3_growAhead 29 = .ok (.istore 5, 2) := by decide +kernel
theorem dX3_growAhead_31 : decode cX3_growAhead 31 = .ok (.aload_n 0, 1) := by decide +kernel
theorem dX3_growAhead_32 : decode cX3_growAhead 32 = .ok (.getfield 40, 3) := by decide +kernel
theorem dX3_growAhead_35 : decode cX3_growAhead 35 = .ok (.iload 4, 2) := by decide +kernel
theorem dX3_growAhead_37 : decode cX3_growAhead 37 = .ok (.invokevirtual 82, 3) := by decide +kernel
theorem dX3_growAhead_40 : decode cX3_growAhead 40 = .ok (.istore 6, 2) := by decide +kernel
theorem dX3_growAhead_42 : decode cX3_growAhead 42 = .ok (.iconst 0, 1) := by decide +kernel
theorem dX3_growAhead_43 : decode cX3_growAhead 43 = .ok (.istore 7, 2) := by decide +kernel
theorem dX3_growAhead_45 : decode cX3_growAhead 45 = .ok (.iload 7, 2) := by decide +kernel
theorem dX3_growAhead_47 : decode cX3_growAhead 47 = .ok (.iconst 3, 1) := by decide +kernel
theorem dX3_growAhead_48 : decode cX3_growAhead 48 = .ok (.if_icmp .ge 51, 3) := by decide +kernel
theorem dX3_growAhead_51 : decode cX3_growAhead 51 = .ok (.iload 7, 2) := by decide +kernel
theorem dX3_growAhead_53 : decode cX3_growAhead 53 = .ok (.iload 5, 2) := by decide +kernel
theorem dX3_growAhead_55 : decode cX3_growAhead 55 = .ok (.invokestatic 89, 3) := by decide +kernel
theorem dX3_growAhead_58 : decode cX3_growAhead 58 = .ok (.ifCond .eq 35, 3) := by decide +kernel
theorem dX3_growAhead_61 : decode cX3_growAhead 61 = .ok (.aload_n 1, 1) := by decide +kernel
theorem dX3_growAhead_62 : decode cX3_growAhead 62 = .ok (.iload 4, 2) := by decide +kernel
theorem dX3_growAhead_64 : decode cX3_growAhead 64 = .ok (.iload 7, 2) := by decide +kernel
theorem dX3_growAhead_66 : decode cX3_growAhead 66 = .ok (.invokevirtual 93, 3) := by decide +kernel
theorem dX3_growAhead_69 : decode cX3_growAhead 69 = .ok (.istore 8, 2) := by decide +kernel
theorem dX3_growAhead_71 : decode cX3_growAhead 71 = .ok (.iload 6, 2) := by decide +kernel
theorem dX3_growAhead_73 : decode cX3_growAhead 73 = .ok (.iconst 1, 1) := by decide +kernel
theorem dX3_growAhead_74 : decode cX3_growAhead 74 = .ok (.iload 8, 2) := by decide +kernel
theorem dX3_growAhead_76 : decode cX3_growAhead 76 = .ok (.invokestatic 109, 3) := by decide +kernel
theorem dX3_growAhead_79 : decode cX3_growAhead 79 = .ok (.ishl, 1) := by decide +kernel
theorem dX3_growAhead_80 : decode cX3_growAhead 80 = .ok (.ior, 1) := by decide +kernel
theorem dX3_growAhead_81 : decode cX3_growAhead 81 = .ok (.aload_n 0, 1) := by decide +kernel
theorem dX3_growAhead_82 : decode cX3_growAhead 82 = .ok (.getfield 40, 3) := by decide +kernel
theorem dX3_growAhead_85 : decode cX3_growAhead 85 = .ok (.iload 8, 2) := by decide +kernel
theorem dX3_growAhead_87 : decode cX3_growAhead 87 = .ok (.invokevirtual 82, 3) := by decide +kernel
theorem dX3_growAhead_90 : decode cX3_growAhead 90 = .ok (.ior, 1) := by decide +kernel
theorem dX3_growAhead_91 : decode cX3_growAhead 91 = .ok (.istore 6, 2) := by decide +kernel
theorem dX3_growAhead_93 : decode cX3_growAhead 93 = .ok (.iinc 7 1, 3) := by decide +kernel
theorem dX3_growAhead_96 : decode cX3_growAhead 96 = .ok (.goto (-51), 3) := by decide +kernel
theorem dX3_growAhead_99 : decode cX3_growAhead 99 = .ok (.iload_n 2, 1) := by decide +kernel
theorem dX3_growAhead_100 : decode cX3_growAhead 100 = .ok (.ifCond .ne 17, 3) := by decide +kernel
theorem dX3_growAhead_103 : decode cX3_growAhead 103 = .ok (.iload 6, 2) := by decide +kernel
theorem dX3_growAhead_105 : decode cX3_growAhead 105 = .ok (.aload_n 0, 1) := by decide +kernel
theorem dX3_growAhead_106 : decode cX3_growAhead 106 = .ok (.getfield 40, 3) := by decide +kernel
theorem dX3_growAhead_109 : decode cX3_growAhead 109 = .ok (.iload 4, 2) := by decide +kernel
theorem dX3_growAhead_111 : decode cX3_growAhead 111 = .ok (.invokevirtual 82, 3) := by decide +kernel
theorem dX3_growAhead_114 : decode cX3_growAhead 114 = .ok (.if_icmp .eq 7, 3) := by decide +kernel
theorem dX3_growAhead_117 : decode cX3_growAhead 117 = .ok (.iconst 1, 1) := by decide +kernel
theorem dX3_growAhead_118 : decode cX3_growAhead 118 = .ok (.goto 4, 3) := by decide +kernel
theorem dX3_growAhead_121 : decode cX3_growAhead 121 = .ok (.iconst 0, 1) := by decide +kernel
theorem dX3_growAhead_122 : decode cX3_growAhead 122 = .ok (.istore_n 2, 1) := by decide +kernel
theorem dX3_growAhead_123 : decode cX3_growAhead 123 = .ok (.aload_n 0, 1) := by decide +kernel
theorem dX3_growAhead_124 : decode cX3_growAhead 124 = .ok (.getfield 40, 3) := by decide +kernel
theorem dX3_growAhead_127 : decode cX3_growAhead 127 = .ok (.iload 4, 2) := by decide +kernel
theorem dX3_growAhead_129 : decode cX3_growAhead 129 = .ok (.iload 6, 2) := by decide +kernel
theorem dX3_growAhead_131 : decode cX3_growAhead 131 = .ok (.invokevirtual 101, 3) := by decide +kernel
theorem dX3_growAhead_134 : decode cX3_growAhead 134 = .ok (.iinc 3 (-1), 3) := by decide +kernel
theorem dX3_growAhead_137 : decode cX3_growAhead 137 = .ok (.goto (-128), 3) := by decide +kernel
theorem dX3_growAhead_140 : decode cX3_growAhead 140 = .ok (.iload_n 2, 1) := by decide +kernel
theorem dX3_growAhead_141 : decode cX3_growAhead 141 = .ok (.ireturn, 1) := by decide +kernel
theorem dX3_findEnds_0 : decode cX3_findEnds 0 = .ok (.aload_n 0, 1) := by decide +kernel
theorem dX3_findEnds_1 : decode cX3_findEnds 1 = .ok (.iconst 0, 1) := by decide +kernel
theorem dX3_findEnds_2 : decode cX3_findEnds 2 = .ok (.putfield 43, 3) := by decide +kernel
theorem dX3_findEnds_5 : decode cX3_findEnds 5 = .ok (.aload_n 0, 1) := by decide +kernel
theorem dX3_findEnds_6 : decode cX3_findEnds 6 = .ok (.iconst 0, 1) := by decide +kernel
theorem dX3_findEnds_7 : decode cX3_findEnds 7 = .ok (.putfield 46, 3) := by decide +kernel
theorem dX3_findEnds_10 : decode cX3_findEnds 10 = .ok (.iconst 0, 1) := by decide +kernel
theorem dX3_findEnds_11 : decode cX3_findEnds 11 = .ok (.istore_n 2, 1) := by decide +kernel
theorem dX3_findEnds_12 : decode cX3_findEnds 12 = .ok (.iload_n 2, 1) := by decide +kernel
theorem dX3_findEnds_13 : decode cX3_findEnds 13 = .ok (.aload_n 0, 1) := by decide +kernel
theorem dX3_findEnds_14 : decode cX3_findEnds 14 = .ok (.getfield 15, 3) := by decide +kernel
theorem dX3_findEnds_17 : decode cX3_findEnds 17 = .ok (.if_icmp .ge 62, 3) := by decide +kernel
theorem dX3_findEnds_20 : decode cX3_findEnds 20 = .ok (.aload_n 1, 1) := by decide +kernel
theorem dX3_findEnds_21 : decode cX3_findEnds 21 = .ok (.iload_n 2, 1) := by decide +kernel
theorem dX3_findEnds_22 : decode cX3_findEnds 22 = .ok (.invokevirtual 112, 3) := by decide +kernel
theorem dX3_findEnds_25 : decode cX3_findEnds 25 = .ok (.istore_n 3, 1) := by decide +kernel
theorem dX3_findEnds_26 : decode cX3_findEnds 26 = .ok (.aload_n 0, 1) := by decide +kernel
theorem dX3_findEnds_27 : decode cX3_findEnds 27 = .ok (.aload_n 0, 1) := by decide +kernel
theorem dX3_findEnds_28 : decode cX3_findEnds 28 = .ok (.getfield 43, 3) := by decide +kernel
theorem dX3_findEnds_31 : decode cX3_findEnds 31 = .ok (.iload_n 3, 1) := by decide +kernel
theorem dX3_findEnds_32 : decode cX3_findEnds 32 = .ok (.ifCond .eq 7, 3) := by decide +kernel
theorem dX3_findEnds_35 : decode cX3_findEnds 35 = .ok (.iconst 1, 1) := by decide +kernel
theorem dX3_findEnds_36 : decode cX3_findEnds 36 = .ok (.goto 4, 3) := by decide +kernel
theorem dX3_findEnds_39 : decode cX3_findEnds 39 = .ok (.iconst 0, 1) := by decide +kernel
theorem dX3_findEnds_40 : decode cX3_findEnds 40 = .ok (.invokestatic 115, 3) := by decide +kernel
theorem dX3_findEnds_43 : decode cX3_findEnds 43 = .ok (.iload_n 2, 1) := by decide +kernel
theorem dX3_findEnds_44 : decode cX3_findEnds 44 = .ok (.ishl, 1) := by decide +kernel
theorem dX3_findEnds_45 : decode cX3_findEnds 45 = .ok (.ior, 1) := by decide +kernel
theorem dX3_findEnds_46 : decode cX3_findEnds 46 = .ok (.putfield 43, 3) := by decide +kernel
theorem dX3_findEnds_49 : decode cX3_findEnds 49 = .ok (.aload_n 0, 1) := by decide +kernel
theorem dX3_findEnds_50 : decode cX3_findEnds 50 = .ok (.aload_n 0, 1) := by decide +kernel
theorem dX3_findEnds_51 : decode cX3_findEnds 51 = .ok (.getfield 46, 3) := by decide +kernel
theorem dX3_findEnds_54 : decode cX3_findEnds 54 = .ok (.iload_n 3, 1) := by decide +kernel
theorem dX3_findEnds_55 : decode cX3_findEnds 55 = .ok (.iconst 1, 1) := by decide +kernel
theorem dX3_findEnds_56 : decode cX3_findEnds 56 = .ok (.if_icmp .ne 7, 3) := by decide +kernel
theorem dX3_findEnds_59 : decode cX3_findEnds 59 = .ok (.iconst 1, 1) := by decide +kernel
theorem dX3_findEnds_60 : decode cX3_findEnds 60 = .ok (.goto 4, 3) := by decide +kernel
theorem dX3_findEnds_63 : decode cX3_findEnds 63 = .ok (.iconst 0, 1) := by decide +kernel
theorem dX3_findEnds_64 : decode cX3_findEnds 64 = .ok (.invokestatic 115, 3) := by decide +kernel
theorem dX3_findEnds_67 : decode cX3_findEnds 67 = .ok (.iload_n 2, 1) := by decide +kernel
theorem dX3_findEnds_68 : decode cX3_findEnds 68 = .ok (.ishl, 1) := by decide +kernel
theorem dX3_findEnds_69 : decode cX3_findEnds 69 = .ok (.ior, 1) := by decide +kernel
theorem dX3_findEnds_70 : decode cX3_findEnds 70 = .ok (.putfield 46, 3) := by decide +kernel
theorem dX3_findEnds_73 : decode cX3_findEnds 73 = .ok (.iinc 2 1, 3) := by decide +kernel
theorem dX3_findEnds_76 : decode cX3_findEnds 76 = .ok (.goto (-64), 3) := by decide +kernel
theorem dX3_findEnds_79 : decode cX3_findEnds 79 = .ok (.return_, 1) := by decide +kernel
theorem dX3_findWay_0 : decode cX3_findWay 0 = .ok (.aload_n 0, 1) := by decide +kernel
theorem dX3_findWay_1 : decode cX3_findWay 1 = .ok (.iconst (-1), 1) := by decide +kernel
theorem dX3_findWay_2 : decode cX3_findWay 2 = .ok (.putfield 49, 3) := by decide +kernel
theorem dX3_findWay_5 : decode cX3_findWay 5 = .ok (.iconst 0, 1) := by decide +kernel
theorem dX3_findWay_6 : decode cX3_findWay 6 = .ok (.istore_n 1, 1) := by decide +kernel
theorem dX3_findWay_7 : decode cX3_findWay 7 = .ok (.iload_n 1, 1) := by decide +kernel
theorem dX3_findWay_8 : decode cX3_findWay 8 = .ok (.aload_n 0, 1) := by decide +kernel
theorem dX3_findWay_9 : decode cX3_findWay 9 = .ok (.getfield 19, 3) := by decide +kernel
theorem dX3_findWay_12 : decode cX3_findWay 12 = .ok (.if_icmp .ge 50, 3) := by decide +kernel
theorem dX3_findWay_15 : decode cX3_findWay 15 = .ok (.aload_n 0, 1) := by decide +kernel
theorem dX3_findWay_16 : decode cX3_findWay 16 = .ok (.getfield 49, 3) := by decide +kernel
theorem dX3_findWay_19 : decode cX3_findWay 19 = .ok (.iconst (-1), 1) := by decide +kernel
theorem dX3_findWay_20 : decode cX3_findWay 20 = .ok (.if_icmp .ne 42, 3) := by decide +kernel
theorem dX3_findWay_23 : decode cX3_findWay 23 = .ok (.aload_n 0, 1) := by decide +kernel
theorem dX3_findWay_24 : decode cX3_findWay 24 = .ok (.getfield 27, 3) := by decide +kernel
theorem dX3_findWay_27 : decode cX3_findWay 27 = .ok (.iload_n 1, 1) := by decide +kernel
theorem dX3_findWay_28 : decode cX3_findWay 28 = .ok (.invokevirtual 82, 3) := by decide +kernel
theorem dX3_findWay_31 : decode cX3_findWay 31 = .ok (.invokestatic 109, 3) := by decide +kernel
theorem dX3_findWay_34 : decode cX3_findWay 34 = .ok (.aload_n 0, 1) := by decide +kernel
theorem dX3_findWay_35 : decode cX3_findWay 35 = .ok (.getfield 46, 3) := by decide +kernel
theorem dX3_findWay_38 : decode cX3_findWay 38 = .ok (.invokestatic 89, 3) := by decide +kernel
theorem dX3_findWay_41 : decode cX3_findWay 41 = .ok (.ifCond .eq 15, 3) := by decide +kernel
theorem dX3_findWay_44 : decode cX3_findWay 44 = .ok (.aload_n 0, 1) := by decide +kernel
theorem dX3_findWay_45 : decode cX3_findWay 45 = .ok (.aload_n 0, 1) := by decide +kernel
theorem dX3_findWay_46 : decode cX3_findWay 46 = .ok (.getfield 27, 3) := by decide +kernel
theorem dX3_findWay_49 : decode cX3_findWay 49 = .ok (.iload_n 1, 1) := by decide +kernel
theorem dX3_findWay_50 : decode cX3_findWay 50 = .ok (.invokevirtual 82, 3) := by decide +kernel
theorem dX3_findWay_53 : decode cX3_findWay 53 = .ok (.invokevirtual 119, 3) := by decide +kernel
theorem dX3_findWay_56 : decode cX3_findWay 56 = .ok (.iinc 1 1, 3) := by decide +kernel
theorem dX3_findWay_59 : decode cX3_findWay 59 = .ok (.goto (-52), 3) := by decide +kernel
theorem dX3_findWay_62 : decode cX3_findWay 62 = .ok (.return_, 1) := by decide +kernel
theorem dX3_layWay_0 : decode cX3_layWay 0 = .ok (.aload_n 0, 1) := by decide +kernel
theorem dX3_layWay_1 : decode cX3_layWay 1 = .ok (.aload_n 0, 1) := by decide +kernel
theorem dX3_layWay_2 : decode cX3_layWay 2 = .ok (.getfield 31, 3) := by decide +kernel
theorem dX3_layWay_5 : decode cX3_layWay 5 = .ok (.iload_n 1, 1) := by decide +kernel
theorem dX3_layWay_6 : decode cX3_layWay 6 = .ok (.invokevirtual 82, 3) := by decide +kernel
theorem dX3_layWay_9 : decode cX3_layWay 9 = .ok (.putfield 49, 3) := by decide +kernel
theorem dX3_layWay_12 : decode cX3_layWay 12 = .ok (.iload_n 1, 1) := by decide +kernel
theorem dX3_layWay_13 : decode cX3_layWay 13 = .ok (.istore_n 2, 1) := by decide +kernel
theorem dX3_layWay_14 : decode cX3_layWay 14 = .ok (.aload_n 0, 1) := by decide +kernel
theorem dX3_layWay_15 : decode cX3_layWay 15 = .ok (.getfield 49, 3) := by decide +kernel
theorem dX3_layWay_18 : decode cX3_layWay 18 = .ok (.istore_n 3, 1) := by decide +kernel
theorem dX3_layWay_19 : decode cX3_layWay 19 = .ok (.iload_n 3, 1) := by decide +kernel
theorem dX3_layWay_20 : decode cX3_layWay 20 = .ok (.ifCond .lt 27, 3) := by decide +kernel
theorem dX3_layWay_23 : decode cX3_layWay 23 = .ok (.aload_n 0, 1) := by decide +kernel
theorem dX3_layWay_24 : decode cX3_layWay 24 = .ok (.getfield 52, 3) := by decide +kernel
theorem dX3_layWay_27 : decode cX3_layWay 27 = .ok (.iload_n 3, 1) := by decide +kernel
theorem dX3_layWay_28 : decode cX3_layWay 28 = .ok (.iload_n 2, 1) := by decide +kernel
theorem dX3_layWay_29 : decode cX3_layWay 29 = .ok (.invokevirtual 101, 3) := by decide +kernel
theorem dX3_layWay_32 : decode cX3_layWay 32 = .ok (.aload_n 0, 1) := by decide +kernel
theorem dX3_layWay_33 : decode cX3_layWay 33 = .ok (.getfield 34, 3) := by decide +kernel
theorem dX3_layWay_36 : decode cX3_layWay 36 = .ok (.iload_n 2, 1) := by decide +kernel
theorem dX3_layWay_37 : decode cX3_layWay 37 = .ok (.invokevirtual 82, 3) := by decide +kernel
theorem dX3_layWay_40 : decode cX3_layWay 40 = .ok (.istore_n 2, 1) := by decide +kernel
theorem dX3_layWay_41 : decode cX3_layWay 41 = .ok (.iinc 3 (-1), 3) := by decide +kernel
theorem dX3_layWay_44 : decode cX3_layWay 44 = .ok (.goto (-25), 3) := by decide +kernel
theorem dX3_layWay_47 : decode cX3_layWay 47 = .ok (.return_, 1) := by decide +kernel
theorem dX3_choiceOnWay_0 : decode cX3_choiceOnWay 0 = .ok (.iload_n 1, 1) := by decide +kernel
theorem dX3_choiceOnWay_1 : decode cX3_choiceOnWay 1 = .ok (.aload_n 0, 1) := by decide +kernel
theorem dX3_choiceOnWay_2 : decode cX3_choiceOnWay 2 = .ok (.getfield 49, 3) := by decide +kernel
theorem dX3_choiceOnWay_5 : decode cX3_choiceOnWay 5 = .ok (.if_icmp .ge 23, 3) := by decide +kernel
theorem dX3_choiceOnWay_8 : decode cX3_choiceOnWay 8 = .ok (.aload_n 0, 1) := by decide +kernel
theorem dX3_choiceOnWay_9 : decode cX3_choiceOnWay 9 = .ok (.getfield 37, 3) := by decide +kernel
theorem dX3_choiceOnWay_12 : decode cX3_choiceOnWay 12 = .ok (.aload_n 0, 1) := by decide +kernel
theorem dX3_choiceOnWay_13 : decode cX3_choiceOnWay 13 = .ok (.getfield 52, 3) := by decide +kernel
theorem dX3_choiceOnWay_16 : decode cX3_choiceOnWay 16 = .ok (.iload_n 1, 1) := by decide +kernel
theorem dX3_choiceOnWay_17 : decode cX3_choiceOnWay 17 = .ok (.iconst 1, 1) := by decide +kernel
theorem dX3_choiceOnWay_18 : decode cX3_choiceOnWay 18 = .ok (.iadd, 1) := by decide +kernel
theorem dX3_choiceOnWay_19 : decode cX3_choiceOnWay 19 = .ok (.invokevirtual 82, 3) := by decide +kernel
theorem dX3_choiceOnWay_22 : decode cX3_choiceOnWay 22 = .ok (.invokevirtual 82, 3) := by decide +kernel
theorem dX3_choiceOnWay_25 : decode cX3_choiceOnWay 25 = .ok (.goto 5, 3) := by decide +kernel
theorem dX3_choiceOnWay_28 : decode cX3_choiceOnWay 28 = .ok (.bipush (-5), 2) := by decide +kernel
theorem dX3_choiceOnWay_30 : decode cX3_choiceOnWay 30 = .ok (.ireturn, 1) := by decide +kernel
theorem dX3_isIn_0 : decode cX3_isIn 0 = .ok (.iload_n 1, 1) := by decide +kernel
theorem dX3_isIn_1 : decode cX3_isIn 1 = .ok (.iload_n 0, 1) := by decide +kernel
theorem dX3_isIn_2 : decode cX3_isIn 2 = .ok (.iushr, 1) := by decide +kernel
theorem dX3_isIn_3 : decode cX3_isIn 3 = .ok (.iconst 1, 1) := by decide +kernel
theorem dX3_isIn_4 : decode cX3_isIn 4 = .ok (.iand, 1) := by decide +kernel
theorem dX3_isIn_5 : decode cX3_isIn 5 = .ok (.iconst 1, 1) := by decide +kernel
theorem dX3_isIn_6 : decode cX3_isIn 6 = .ok (.if_icmp .ne 7, 3) := by decide +kernel
theorem dX3_isIn_9 : decode cX3_isIn 9 = .ok (.iconst 1, 1) := by decide +kernel
theorem dX3_isIn_10 : decode cX3_isIn 10 = .ok (.goto 4, 3) := by decide +kernel
theorem dX3_isIn_13 : decode cX3_isIn 13 = .ok (.iconst 0, 1) := by decide +kernel
theorem dX3_isIn_14 : decode cX3_isIn 14 = .ok (.ireturn, 1) := by decide +kernel
theorem dX3_isReached_0 : decode cX3_isReached 0 = .ok (.aload_n 0, 1) := by decide +kernel
theorem dX3_isReached_1 : decode cX3_isReached 1 = .ok (.getfield 31, 3) := by decide +kernel
theorem dX3_isReached_4 : decode cX3_isReached 4 = .ok (.iload_n 1, 1) := by decide +kernel
theorem dX3_isReached_5 : decode cX3_isReached 5 = .ok (.invokevirtual 82, 3) := by decide +kernel
theorem dX3_isReached_8 : decode cX3_isReached 8 = .ok (.iconst (-1), 1) := by decide +kernel
theorem dX3_isReached_9 : decode cX3_isReached 9 = .ok (.if_icmp .eq 7, 3) := by decide +kernel
theorem dX3_isReached_12 : decode cX3_isReached 12 = .ok (.iconst 1, 1) := by decide +kernel
theorem dX3_isReached_13 : decode cX3_isReached 13 = .ok (.goto 4, 3) := by decide +kernel
theorem dX3_isReached_16 : decode cX3_isReached 16 = .ok (.iconst 0, 1) := by decide +kernel
theorem dX3_isReached_17 : decode cX3_isReached 17 = .ok (.ireturn, 1) := by decide +kernel
theorem dX3_isStuck_0 : decode cX3_isStuck 0 = .ok (.aload_n 0, 1) := by decide +kernel
theorem dX3_isStuck_1 : decode cX3_isStuck 1 = .ok (.iload_n 1, 1) := by decide +kernel
theorem dX3_isStuck_2 : decode cX3_isStuck 2 = .ok (.invokevirtual 97, 3) := by decide +kernel
theorem dX3_isStuck_5 : decode cX3_isStuck 5 = .ok (.ifCond .eq 37, 3) := by decide +kernel
theorem dX3_isStuck_8 : decode cX3_isStuck 8 = .ok (.iload_n 1, 1) := by decide +kernel
theorem dX3_isStuck_9 : decode cX3_isStuck 9 = .ok (.invokestatic 109, 3) := by decide +kernel
theorem dX3_isStuck_12 : decode cX3_isStuck 12 = .ok (.aload_n 0, 1) := by decide +kernel
theorem dX3_isStuck_13 : decode cX3_isStuck 13 = .ok (.getfield 43, 3) := by decide +kernel
theorem dX3_isStuck_16 : decode cX3_isStuck 16 = .ok (.invokestatic 89, 3) := by decide +kernel
theorem dX3_isStuck_19 : decode cX3_isStuck 19 = .ok (.ifCond .ne 23, 3) := by decide +kernel
theorem dX3_isStuck_22 : decode cX3_isStuck 22 = .ok (.aload_n 0, 1) := by decide +kernel
theorem dX3_isStuck_23 : decode cX3_isStuck 23 = .ok (.getfield 40, 3) := by decide +kernel
theorem dX3_isStuck_26 : decode cX3_isStuck 26 = .ok (.iload_n 1, 1) := by decide +kernel
theorem dX3_isStuck_27 : decode cX3_isStuck 27 = .ok (.invokevirtual 82, 3) := by decide +kernel
theorem dX3_isStuck_30 : decode cX3_isStuck 30 = .ok (.aload_n 0, 1) := by decide +kernel
theorem dX3_isStuck_31 : decode cX3_isStuck 31 = .ok (.getfield 43, 3) := by decide +kernel
theorem dX3_isStuck_34 : decode cX3_isStuck 34 = .ok (.iand, 1) := by decide +kernel
theorem dX3_isStuck_35 : decode cX3_isStuck 35 = .ok (.ifCond .ne 7, 3) := by decide +kernel
theorem dX3_isStuck_38 : decode cX3_isStuck 38 = .ok (.iconst 1, 1) := by decide +kernel
theorem dX3_isStuck_39 : decode cX3_isStuck 39 = .ok (.goto 4, 3) := by decide +kernel
theorem dX3_isStuck_42 : decode cX3_isStuck 42 = .ok (.iconst 0, 1) := by decide +kernel
theorem dX3_isStuck_43 : decode cX3_isStuck 43 = .ok (.ireturn, 1) := by decide +kernel
theorem dX3_placesWith_0 : decode cX3_placesWith 0 = .ok (.iconst 0, 1) := by decide +kernel
theorem dX3_placesWith_1 : decode cX3_placesWith 1 = .ok (.istore_n 2, 1) := by decide +kernel
theorem dX3_placesWith_2 : decode cX3_placesWith 2 = .ok (.iconst 0, 1) := by decide +kernel
theorem dX3_placesWith_3 : decode cX3_placesWith 3 = .ok (.istore_n 3, 1) := by decide +kernel
theorem dX3_placesWith_4 : decode cX3_placesWith 4 = .ok (.iload_n 3, 1) := by decide +kernel
theorem dX3_placesWith_5 : decode cX3_placesWith 5 = .ok (.bipush 32, 2) := by decide +kernel
theorem dX3_placesWith_7 : decode cX3_placesWith 7 = .ok (.if_icmp .ge 24, 3) := by decide +kernel
theorem dX3_placesWith_10 : decode cX3_placesWith 10 = .ok (.iload_n 2, 1) := by decide +kernel
theorem dX3_placesWith_11 : decode cX3_placesWith 11 = .ok (.aload_n 0, 1) := by decide +kernel
theorem dX3_placesWith_12 : decode cX3_placesWith 12 = .ok (.iload_n 1, 1) := by decide +kernel
theorem dX3_placesWith_13 : decode cX3_placesWith 13 = .ok (.iload_n 3, 1) := by decide +kernel
theorem dX3_placesWith_14 : decode cX3_placesWith 14 = .ok (.invokestatic 122, 3) := by decide +kernel
theorem dX3_placesWith_17 : decode cX3_placesWith 17 = .ok (.invokevirtual 97, 3) := by decide +kernel
theorem dX3_placesWith_20 : decode cX3_placesWith 20 = .ok (.invokestatic 115, 3) := by decide +kernel
theorem dX3_placesWith_23 : decode cX3_placesWith 23 = .ok (.iadd, 1) := by decide +kernel
theorem dX3_placesWith_24 : decode cX3_placesWith 24 = .ok (.istore_n 2, 1) := by decide +kernel
theorem dX3_placesWith_25 : decode cX3_placesWith 25 = .ok (.iinc 3 1, 3) := by decide +kernel
theorem dX3_placesWith_28 : decode cX3_placesWith 28 = .ok (.goto (-24), 3) := by decide +kernel
theorem dX3_placesWith_31 : decode cX3_placesWith 31 = .ok (.iload_n 2, 1) := by decide +kernel
theorem dX3_placesWith_32 : decode cX3_placesWith 32 = .ok (.ireturn, 1) := by decide +kernel
theorem dX3_isDead_0 : decode cX3_isDead 0 = .ok (.aload_n 0, 1) := by decide +kernel
theorem dX3_isDead_1 : decode cX3_isDead 1 = .ok (.iload_n 1, 1) := by decide +kernel
theorem dX3_isDead_2 : decode cX3_isDead 2 = .ok (.invokevirtual 125, 3) := by decide +kernel
theorem dX3_isDead_5 : decode cX3_isDead 5 = .ok (.ifCond .ne 7, 3) := by decide +kernel
theorem dX3_isDead_8 : decode cX3_isDead 8 = .ok (.iconst 1, 1) := by decide +kernel
theorem dX3_isDead_9 : decode cX3_isDead 9 = .ok (.goto 4, 3) := by decide +kernel
theorem dX3_isDead_12 : decode cX3_isDead 12 = .ok (.iconst 0, 1) := by decide +kernel
theorem dX3_isDead_13 : decode cX3_isDead 13 = .ok (.ireturn, 1) := by decide +kernel
theorem dX3_comesAgain_0 : decode cX3_comesAgain 0 = .ok (.iconst 0, 1) := by decide +kernel
theorem dX3_comesAgain_1 : decode cX3_comesAgain 1 = .ok (.istore_n 2, 1) := by decide +kernel
theorem dX3_comesAgain_2 : decode cX3_comesAgain 2 = .ok (.iload_n 2, 1) := by decide +kernel
theorem dX3_comesAgain_3 : decode cX3_comesAgain 3 = .ok (.bipush 32, 2) := by decide +kernel
theorem dX3_comesAgain_5 : decode cX3_comesAgain 5 = .ok (.if_icmp .ge 40, 3) := by decide +kernel
theorem dX3_comesAgain_8 : decode cX3_comesAgain 8 = .ok (.iload_n 1, 1) := by decide +kernel
theorem dX3_comesAgain_9 : decode cX3_comesAgain 9 = .ok (.iload_n 2, 1) := by decide +kernel
theorem dX3_comesAgain_10 : decode cX3_comesAgain 10 = .ok (.invokestatic 122, 3) := by decide +kernel
theorem dX3_comesAgain_13 : decode cX3_comesAgain 13 = .ok (.istore_n 3, 1) := by decide +kernel
theorem dX3_comesAgain_14 : decode cX3_comesAgain 14 = .ok (.aload_n 0, 1) := by decide +kernel
theorem dX3_comesAgain_15 : decode cX3_comesAgain 15 = .ok (.iload_n 3, 1) := by decide +kernel
theorem dX3_comesAgain_16 : decode cX3_comesAgain 16 = .ok (.invokevirtual 97, 3) := by decide +kernel
theorem dX3_comesAgain_19 : decode cX3_comesAgain 19 = .ok (.ifCond .eq 20, 3) := by decide +kernel
theorem dX3_comesAgain_22 : decode cX3_comesAgain 22 = .ok (.iload_n 1, 1) := by decide +kernel
theorem dX3_comesAgain_23 : decode cX3_comesAgain 23 = .ok (.aload_n 0, 1) := by decide +kernel
theorem dX3_comesAgain_24 : decode cX3_comesAgain 24 = .ok (.getfield 40, 3) := by decide +kernel
theorem dX3_comesAgain_27 : decode cX3_comesAgain 27 = .ok (.iload_n 3, 1) := by decide +kernel
theorem dX3_comesAgain_28 : decode cX3_comesAgain 28 = .ok (.invokevirtual 82, 3) := by decide +kernel
theorem dX3_comesAgain_31 : decode cX3_comesAgain 31 = .ok (.invokestatic 89, 3) := by decide +kernel
theorem dX3_comesAgain_34 : decode cX3_comesAgain 34 = .ok (.ifCond .eq 5, 3) := by decide +kernel
theorem dX3_comesAgain_37 : decode cX3_comesAgain 37 = .ok (.iconst 1, 1) := by decide +kernel
theorem dX3_comesAgain_38 : decode cX3_comesAgain 38 = .ok (.ireturn, 1) := by decide +kernel
theorem dX3_comesAgain_39 : decode cX3_comesAgain 39 = .ok (.iinc 2 1, 3) := by decide +kernel
theorem dX3_comesAgain_42 : decode cX3_comesAgain 42 = .ok (.goto (-40), 3) := by decide +kernel
theorem dX3_comesAgain_45 : decode cX3_comesAgain 45 = .ok (.iconst 0, 1) := by decide +kernel
theorem dX3_comesAgain_46 : decode cX3_comesAgain 46 = .ok (.ireturn, 1) := by decide +kernel
theorem dX3_stuckPlacesWith_0 : decode cX3_stuckPlacesWith 0 = .ok (.iconst 0, 1) := by decide +kernel
theorem dX3_stuckPlacesWith_1 : decode cX3_stuckPlacesWith 1 = .ok (.istore_n 2, 1) := by decide +kernel
theorem dX3_stuckPlacesWith_2 : decode cX3_stuckPlacesWith 2 = .ok (.iconst 0, 1) := by decide +kernel
theorem dX3_stuckPlacesWith_3 : decode cX3_stuckPlacesWith 3 = .ok (.istore_n 3, 1) := by decide +kernel
theorem dX3_stuckPlacesWith_4 : decode cX3_stuckPlacesWith 4 = .ok (.iload_n 3, 1) := by decide +kernel
theorem dX3_stuckPlacesWith_5 : decode cX3_stuckPlacesWith 5 = .ok (.bipush 32, 2) := by decide +kernel
theorem dX3_stuckPlacesWith_7 : decode cX3_stuckPlacesWith 7 = .ok (.if_icmp .ge 24, 3) := by decide +kernel
theorem dX3_stuckPlacesWith_10 : decode cX3_stuckPlacesWith 10 = .ok (.iload_n 2, 1) := by decide +kernel
theorem dX3_stuckPlacesWith_11 : decode cX3_stuckPlacesWith 11 = .ok (.aload_n 0, 1) := by decide +kernel
theorem dX3_stuckPlacesWith_12 : decode cX3_stuckPlacesWith 12 = .ok (.iload_n 1, 1) := by decide +kernel
theorem dX3_stuckPlacesWith_13 : decode cX3_stuckPlacesWith 13 = .ok (.iload_n 3, 1) := by decide +kernel
theorem dX3_stuckPlacesWith_14 : decode cX3_stuckPlacesWith 14 = .ok (.invokestatic 122, 3) := by decide +kernel
theorem dX3_stuckPlacesWith_17 : decode cX3_stuckPlacesWith 17 = .ok (.invokevirtual 128, 3) := by decide +kernel
theorem dX3_stuckPlacesWith_20 : decode cX3_stuckPlacesWith 20 = .ok (.invokestatic 115, 3) := by decide +kernel
theorem dX3_stuckPlacesWith_23 : decode cX3_stuckPlacesWith 23 = .ok (.iadd, 1) := by decide +kernel
theorem dX3_stuckPlacesWith_24 : decode cX3_stuckPlacesWith 24 = .ok (.istore_n 2, 1) := by decide +kernel
theorem dX3_stuckPlacesWith_25 : decode cX3_stuckPlacesWith 25 = .ok (.iinc 3 1, 3) := by decide +kernel
theorem dX3_stuckPlacesWith_28 : decode cX3_stuckPlacesWith 28 = .ok (.goto (-24), 3) := by decide +kernel
theorem dX3_stuckPlacesWith_31 : decode cX3_stuckPlacesWith 31 = .ok (.iload_n 2, 1) := by decide +kernel
theorem dX3_stuckPlacesWith_32 : decode cX3_stuckPlacesWith 32 = .ok (.ireturn, 1) := by decide +kernel
theorem dX3_fewestChoicesTo_0 : decode cX3_fewestChoicesTo 0 = .ok (.iconst 0, 1) := by decide +kernel
theorem dX3_fewestChoicesTo_1 : decode cX3_fewestChoicesTo 1 = .ok (.istore_n 2, 1) := by decide +kernel
theorem dX3_fewestChoicesTo_2 : decode cX3_fewestChoicesTo 2 = .ok (.iload_n 2, 1) := by decide +kernel
theorem dX3_fewestChoicesTo_3 : decode cX3_fewestChoicesTo 3 = .ok (.aload_n 0, 1) := by decide +kernel
theorem dX3_fewestChoicesTo_4 : decode cX3_fewestChoicesTo 4 = .ok (.getfield 19, 3) := by decide +kernel
theorem dX3_fewestChoicesTo_7 : decode cX3_fewestChoicesTo 7 = .ok (.if_icmp .ge 40, 3) := by decide +kernel
theorem dX3_fewestChoicesTo_10 : decode cX3_fewestChoicesTo 10 = .ok (.aload_n 0, 1) := by decide +kernel
theorem dX3_fewestChoicesTo_11 : decode cX3_fewestChoicesTo 11 = .ok (.getfield 27, 3) := by decide +kernel
theorem dX3_fewestChoicesTo_14 : decode cX3_fewestChoicesTo 14 = .ok (.iload_n 2, 1) := by decide +kernel
theorem dX3_fewestChoicesTo_15 : decode cX3_fewestChoicesTo 15 = .ok (.invokevirtual 82, 3) := by decide +kernel
theorem dX3_fewestChoicesTo_18 : decode cX3_fewestChoicesTo 18 = .ok (.invokestatic 109, 3) := by decide +kernel
theorem dX3_fewestChoicesTo_21 : decode cX3_fewestChoicesTo 21 = .ok (.iload_n 1, 1) := by decide +kernel
theorem dX3_fewestChoicesTo_22 : decode cX3_fewestChoicesTo 22 = .ok (.if_icmp .ne 19, 3) := by decide +kernel
theorem dX3_fewestChoicesTo_25 : decode cX3_fewestChoicesTo 25 = .ok (.aload_n 0, 1) := by decide +kernel
theorem dX3_fewestChoicesTo_26 : decode cX3_fewestChoicesTo 26 = .ok (.getfield 31, 3) := by decide +kernel
theorem dX3_fewestChoicesTo_29 : decode cX3_fewestChoicesTo 29 = .ok (.aload_n 0, 1) := by decide +kernel
theorem dX3_fewestChoicesTo_30 : decode cX3_fewestChoicesTo 30 = .ok (.getfield 27, 3) := by decide +kernel
theorem dX3_fewestChoicesTo_33 : decode cX3_fewestChoicesTo 33 = .ok (.iload_n 2, 1) := by decide +kernel
theorem dX3_fewestChoicesTo_34 : decode cX3_fewestChoicesTo 34 = .ok (.invokevirtual 82, 3) := by decide +kernel
theorem dX3_fewestChoicesTo_37 : decode cX3_fewestChoicesTo 37 = .ok (.invokevirtual 82, 3) := by decide +kernel
theorem dX3_fewestChoicesTo_40 : decode cX3_fewestChoicesTo 40 = .ok (.ireturn, 1) := by decide +kernel
theorem dX3_fewestChoicesTo_41 : decode cX3_fewestChoicesTo 41 = .ok (.iinc 2 1, 3) := by decide +kernel
theorem dX3_fewestChoicesTo_44 : decode cX3_fewestChoicesTo 44 = .ok (.goto (-42), 3) := by decide +kernel
theorem dX3_fewestChoicesTo_47 : decode cX3_fewestChoicesTo 47 = .ok (.bipush (-5), 2) := by decide +kernel
theorem dX3_fewestChoicesTo_49 : decode cX3_fewestChoicesTo 49 = .ok (.ireturn, 1) := by decide +kernel
theorem dX3_deadPages_0 : decode cX3_deadPages 0 = .ok (.iconst 0, 1) := by decide +kernel
theorem dX3_deadPages_1 : decode cX3_deadPages 1 = .ok (.istore_n 1, 1) := by decide +kernel
theorem dX3_deadPages_2 : decode cX3_deadPages 2 = .ok (.iconst 0, 1) := by decide +kernel
theorem dX3_deadPages_3 : decode cX3_deadPages 3 = .ok (.istore_n 2, 1) := by decide +kernel
theorem dX3_deadPages_4 : decode cX3_deadPages 4 = .ok (.iload_n 2, 1) := by decide +kernel
theorem dX3_deadPages_5 : decode cX3_deadPages 5 = .ok (.aload_n 0, 1) := by decide +kernel
theorem dX3_deadPages_6 : decode cX3_deadPages 6 = .ok (.getfield 15, 3) := by decide +kernel
theorem dX3_deadPages_9 : decode cX3_deadPages 9 = .ok (.if_icmp .ge 20, 3) := by decide +kernel
theorem dX3_deadPages_12 : decode cX3_deadPages 12 = .ok (.iload_n 1, 1) := by decide +kernel
theorem dX3_deadPages_13 : decode cX3_deadPages 13 = .ok (.aload_n 0, 1) := by decide +kernel
theorem dX3_deadPages_14 : decode cX3_deadPages 14 = .ok (.iload_n 2, 1) := by decide +kernel
theorem dX3_deadPages_15 : decode cX3_deadPages 15 = .ok (.invokevirtual 131, 3) := by decide +kernel
theorem dX3_deadPages_18 : decode cX3_deadPages 18 = .ok (.invokestatic 115, 3) := by decide +kernel
theorem dX3_deadPages_21 : decode cX3_deadPages 21 = .ok (.iadd, 1) := by decide +kernel
theorem dX3_deadPages_22 : decode cX3_deadPages 22 = .ok (.istore_n 1, 1) := by decide +kernel
theorem dX3_deadPages_23 : decode cX3_deadPages 23 = .ok (.iinc 2 1, 3) := by decide +kernel
theorem dX3_deadPages_26 : decode cX3_deadPages 26 = .ok (.goto (-22), 3) := by decide +kernel
theorem dX3_deadPages_29 : decode cX3_deadPages 29 = .ok (.iload_n 1, 1) := by decide +kernel
theorem dX3_deadPages_30 : decode cX3_deadPages 30 = .ok (.ireturn, 1) := by decide +kernel
theorem dX3_pagesThatComeAgain_0 : decode cX3_pagesThatComeAgain 0 = .ok (.iconst 0, 1) := by decide +kernel
theorem dX3_pagesThatComeAgain_1 : decode cX3_pagesThatComeAgain 1 = .ok (.istore_n 1, 1) := by decide +kernel
theorem dX3_pagesThatComeAgain_2 : decode cX3_pagesThatComeAgain 2 = .ok (.iconst 0, 1) := by decide +kernel
theorem dX3_pagesThatComeAgain_3 : decode cX3_pagesThatComeAgain 3 = .ok (.istore_n 2, 1) := by decide +kernel
theorem dX3_pagesThatComeAgain_4 : decode cX3_pagesThatComeAgain 4 = .ok (.iload_n 2, 1) := by decide +kernel
theorem dX3_pagesThatComeAgain_5 : decode cX3_pagesThatComeAgain 5 = .ok (.aload_n 0, 1) := by decide +kernel
theorem dX3_pagesThatComeAgain_6 : decode cX3_pagesThatComeAgain 6 = .ok (.getfield 15, 3) := by decide +kernel
theorem dX3_pagesThatComeAgain_9 : decode cX3_pagesThatComeAgain 9 = .ok (.if_icmp .ge 20, 3) := by decide +kernel
theorem dX3_pagesThatComeAgain_12 : decode cX3_pagesThatComeAgain 12 = .ok (.iload_n 1, 1) := by decide +kernel
theorem dX3_pagesThatComeAgain_13 : decode cX3_pagesThatComeAgain 13 = .ok (.aload_n 0, 1) := by decide +kernel
theorem dX3_pagesThatComeAgain_14 : decode cX3_pagesThatComeAgain 14 = .ok (.iload_n 2, 1) := by decide +kernel
theorem dX3_pagesThatComeAgain_15 : decode cX3_pagesThatComeAgain 15 = .ok (.invokevirtual 134, 3) := by decide +kernel
theorem dX3_pagesThatComeAgain_18 : decode cX3_pagesThatComeAgain 18 = .ok (.invokestatic 115, 3) := by decide +kernel
theorem dX3_pagesThatComeAgain_21 : decode cX3_pagesThatComeAgain 21 = .ok (.iadd, 1) := by decide +kernel
theorem dX3_pagesThatComeAgain_22 : decode cX3_pagesThatComeAgain 22 = .ok (.istore_n 1, 1) := by decide +kernel
theorem dX3_pagesThatComeAgain_23 : decode cX3_pagesThatComeAgain 23 = .ok (.iinc 2 1, 3) := by decide +kernel
theorem dX3_pagesThatComeAgain_26 : decode cX3_pagesThatComeAgain 26 = .ok (.goto (-22), 3) := by decide +kernel
theorem dX3_pagesThatComeAgain_29 : decode cX3_pagesThatComeAgain 29 = .ok (.iload_n 1, 1) := by decide +kernel
theorem dX3_pagesThatComeAgain_30 : decode cX3_pagesThatComeAgain 30 = .ok (.ireturn, 1) := by decide +kernel
theorem dX3_stuckPlaces_0 : decode cX3_stuckPlaces 0 = .ok (.iconst 0, 1) := by decide +kernel
theorem dX3_stuckPlaces_1 : decode cX3_stuckPlaces 1 = .ok (.istore_n 1, 1) := by decide +kernel
theorem dX3_stuckPlaces_2 : decode cX3_stuckPlaces 2 = .ok (.iconst 0, 1) := by decide +kernel
theorem dX3_stuckPlaces_3 : decode cX3_stuckPlaces 3 = .ok (.istore_n 2, 1) := by decide +kernel
theorem dX3_stuckPlaces_4 : decode cX3_stuckPlaces 4 = .ok (.iload_n 2, 1) := by decide +kernel
theorem dX3_stuckPlaces_5 : decode cX3_stuckPlaces 5 = .ok (.aload_n 0, 1) := by decide +kernel
theorem dX3_stuckPlaces_6 : decode cX3_stuckPlaces 6 = .ok (.getfield 15, 3) := by decide +kernel
theorem dX3_stuckPlaces_9 : decode cX3_stuckPlaces 9 = .ok (.if_icmp .ge 17, 3) := by decide +kernel
theorem dX3_stuckPlaces_12 : decode cX3_stuckPlaces 12 = .ok (.iload_n 1, 1) := by decide +kernel
theorem dX3_stuckPlaces_13 : decode cX3_stuckPlaces 13 = .ok (.aload_n 0, 1) := by decide +kernel
theorem dX3_stuckPlaces_14 : decode cX3_stuckPlaces 14 = .ok (.iload_n 2, 1) := by decide +kernel
theorem dX3_stuckPlaces_15 : decode cX3_stuckPlaces 15 = .ok (.invokevirtual 137, 3) := by decide +kernel
theorem dX3_stuckPlaces_18 : decode cX3_stuckPlaces 18 = .ok (.iadd, 1) := by decide +kernel
theorem dX3_stuckPlaces_19 : decode cX3_stuckPlaces 19 = .ok (.istore_n 1, 1) := by decide +kernel
theorem dX3_stuckPlaces_20 : decode cX3_stuckPlaces 20 = .ok (.iinc 2 1, 3) := by decide +kernel
theorem dX3_stuckPlaces_23 : decode cX3_stuckPlaces 23 = .ok (.goto (-19), 3) := by decide +kernel
theorem dX3_stuckPlaces_26 : decode cX3_stuckPlaces 26 = .ok (.iload_n 1, 1) := by decide +kernel
theorem dX3_stuckPlaces_27 : decode cX3_stuckPlaces 27 = .ok (.ireturn, 1) := by decide +kernel
theorem dX3_livePagesOf_0 : decode cX3_livePagesOf 0 = .ok (.iconst 0, 1) := by decide +kernel
theorem dX3_livePagesOf_1 : decode cX3_livePagesOf 1 = .ok (.istore_n 2, 1) := by decide +kernel
theorem dX3_livePagesOf_2 : decode cX3_livePagesOf 2 = .ok (.iconst 0, 1) := by decide +kernel
theorem dX3_livePagesOf_3 : decode cX3_livePagesOf 3 = .ok (.istore_n 3, 1) := by decide +kernel
theorem dX3_livePagesOf_4 : decode cX3_livePagesOf 4 = .ok (.iload_n 3, 1) := by decide +kernel
theorem dX3_livePagesOf_5 : decode cX3_livePagesOf 5 = .ok (.aload_n 0, 1) := by decide +kernel
theorem dX3_livePagesOf_6 : decode cX3_livePagesOf 6 = .ok (.getfield 15, 3) := by decide +kernel
theorem dX3_livePagesOf_9 : decode cX3_livePagesOf 9 = .ok (.if_icmp .ge 36, 3) := by decide +kernel
theorem dX3_livePagesOf_12 : decode cX3_livePagesOf 12 = .ok (.iload_n 2, 1) := by decide +kernel
theorem dX3_livePagesOf_13 : decode cX3_livePagesOf 13 = .ok (.iload_n 3, 1) := by decide +kernel
theorem dX3_livePagesOf_14 : decode cX3_livePagesOf 14 = .ok (.iload_n 1, 1) := by decide +kernel
theorem dX3_livePagesOf_15 : decode cX3_livePagesOf 15 = .ok (.invokestatic 89, 3) := by decide +kernel
theorem dX3_livePagesOf_18 : decode cX3_livePagesOf 18 = .ok (.ifCond .eq 15, 3) := by decide +kernel
theorem dX3_livePagesOf_21 : decode cX3_livePagesOf 21 = .ok (.aload_n 0, 1) := by decide +kernel
theorem dX3_livePagesOf_22 : decode cX3_livePagesOf 22 = .ok (.iload_n 3, 1) := by decide +kernel
theorem dX3_livePagesOf_23 : decode cX3_livePagesOf 23 = .ok (.invokevirtual 131, 3) := by decide +kernel
theorem dX3_livePagesOf_26 : decode cX3_livePagesOf 26 = .ok (.ifCond .ne 7, 3) := by decide +kernel
theorem dX3_livePagesOf_29 : decode cX3_livePagesOf 29 = .ok (.iconst 1, 1) := by decide +kernel
theorem dX3_livePagesOf_30 : decode cX3_livePagesOf 30 = .ok (.goto 4, 3) := by decide +kernel
theorem dX3_livePagesOf_33 : decode cX3_livePagesOf 33 = .ok (.iconst 0, 1) := by decide +kernel
theorem dX3_livePagesOf_34 : decode cX3_livePagesOf 34 = .ok (.invokestatic 115, 3) := by decide +kernel
theorem dX3_livePagesOf_37 : decode cX3_livePagesOf 37 = .ok (.iadd, 1) := by decide +kernel
theorem dX3_livePagesOf_38 : decode cX3_livePagesOf 38 = .ok (.istore_n 2, 1) := by decide +kernel
theorem dX3_livePagesOf_39 : decode cX3_livePagesOf 39 = .ok (.iinc 3 1, 3) := by decide +kernel
theorem dX3_livePagesOf_42 : decode cX3_livePagesOf 42 = .ok (.goto (-38), 3) := by decide +kernel
theorem dX3_livePagesOf_45 : decode cX3_livePagesOf 45 = .ok (.iload_n 2, 1) := by decide +kernel
theorem dX3_livePagesOf_46 : decode cX3_livePagesOf 46 = .ok (.ireturn, 1) := by decide +kernel
theorem dX3_isEverOpen_0 : decode cX3_isEverOpen 0 = .ok (.iconst 0, 1) := by decide +kernel
theorem dX3_isEverOpen_1 : decode cX3_isEverOpen 1 = .ok (.istore 4, 2) := by decide +kernel
theorem dX3_isEverOpen_3 : decode cX3_isEverOpen 3 = .ok (.iload 4, 2) := by decide +kernel
theorem dX3_isEverOpen_5 : decode cX3_isEverOpen 5 = .ok (.bipush 32, 2) := by decide +kernel
theorem dX3_isEverOpen_7 : decode cX3_isEverOpen 7 = .ok (.if_icmp .ge 38, 3) := by decide +kernel
theorem dX3_isEverOpen_10 : decode cX3_isEverOpen 10 = .ok (.iload_n 2, 1) := by decide +kernel
theorem dX3_isEverOpen_11 : decode cX3_isEverOpen 11 = .ok (.iload 4, 2) := by decide +kernel
theorem dX3_isEverOpen_13 : decode cX3_isEverOpen 13 = .ok (.invokestatic 122, 3) := by decide +kernel
theorem dX3_isEverOpen_16 : decode cX3_isEverOpen 16 = .ok (.istore 5, 2) := by decide +kernel
theorem dX3_isEverOpen_18 : decode cX3_isEverOpen 18 = .ok (.aload_n 0, 1) := by decide +kernel
theorem dX3_isEverOpen_19 : decode cX3_isEverOpen 19 = .ok (.iload 5, 2) := by decide +kernel
theorem dX3_isEverOpen_21 : decode cX3_isEverOpen 21 = .ok (.invokevirtual 97, 3) := by decide +kernel
theorem dX3_isEverOpen_24 : decode cX3_isEverOpen 24 = .ok (.ifCond .eq 15, 3) := by decide +kernel
theorem dX3_isEverOpen_27 : decode cX3_isEverOpen 27 = .ok (.aload_n 1, 1) := by decide +kernel
theorem dX3_isEverOpen_28 : decode cX3_isEverOpen 28 = .ok (.iload 5, 2) := by decide +kernel
theorem dX3_isEverOpen_30 : decode cX3_isEverOpen 30 = .ok (.iload_n 3, 1) := by decide +kernel
theorem dX3_isEverOpen_31 : decode cX3_isEverOpen 31 = .ok (.invokevirtual 140, 3) := by decide +kernel
theorem dX3_isEverOpen_34 : decode cX3_isEverOpen 34 = .ok (.ifCond .ne 5, 3) := by decide +kernel
theorem dX3_isEverOpen_37 : decode cX3_isEverOpen 37 = .ok (.iconst 1, 1) := by decide +kernel
theorem dX3_isEverOpen_38 : decode cX3_isEverOpen 38 = .ok (.ireturn, 1) := by decide +kernel
theorem dX3_isEverOpen_39 : decode cX3_isEverOpen 39 = .ok (.iinc 4 1, 3) := by decide +kernel
theorem dX3_isEverOpen_42 : decode cX3_isEverOpen 42 = .ok (.goto (-39), 3) := by decide +kernel
theorem dX3_isEverOpen_45 : decode cX3_isEverOpen 45 = .ok (.iconst 0, 1) := by decide +kernel
theorem dX3_isEverOpen_46 : decode cX3_isEverOpen 46 = .ok (.ireturn, 1) := by decide +kernel
theorem dX4_init_0 : decode cX4_init 0 = .ok (.aload_n 0, 1) := by decide +kernel
theorem dX4_init_1 : decode cX4_init 1 = .ok (.invokespecial 3, 3) := by decide +kernel
theorem dX4_init_4 : decode cX4_init 4 = .ok (.aload_n 0, 1) := by decide +kernel
theorem dX4_init_5 : decode cX4_init 5 = .ok (.new 9, 3) := by decide +kernel
theorem dX4_init_8 : decode cX4_init 8 = .ok (.dup, 1) := by decide +kernel
theorem dX4_init_9 : decode cX4_init 9 = .ok (.bipush 60, 2) := by decide +kernel
theorem dX4_init_11 : decode cX4_init 11 = .ok (.invokespecial 11, 3) := by decide +kernel
theorem dX4_init_14 : decode cX4_init 14 = .ok (.putfield 14, 3) := by decide +kernel
theorem dX4_init_17 : decode cX4_init 17 = .ok (.aload_n 0, 1) := by decide +kernel
theorem dX4_init_18 : decode cX4_init 18 = .ok (.iconst 0, 1) := by decide +kernel
theorem dX4_init_19 : decode cX4_init 19 = .ok (.putfield 20, 3) := by decide +kernel
theorem dX4_init_22 : decode cX4_init 22 = .ok (.aload_n 0, 1) := by decide +kernel
theorem dX4_init_23 : decode cX4_init 23 = .ok (.iconst 0, 1) := by decide +kernel
theorem dX4_init_24 : decode cX4_init 24 = .ok (.putfield 24, 3) := by decide +kernel
theorem dX4_init_27 : decode cX4_init 27 = .ok (.aload_n 0, 1) := by decide +kernel
theorem dX4_init_28 : decode cX4_init 28 = .ok (.iconst 1, 1) := by decide +kernel
theorem dX4_init_29 : decode cX4_init 29 = .ok (.putfield 27, 3) := by decide +kernel
theorem dX4_init_32 : decode cX4_init 32 = .ok (.aload_n 0, 1) := by decide +kernel
theorem dX4_init_33 : decode cX4_init 33 = .ok (.iconst 0, 1) := by decide +kernel
theorem dX4_init_34 : decode cX4_init 34 = .ok (.putfield 31, 3) := by decide +kernel
theorem dX4_init_37 : decode cX4_init 37 = .ok (.aload_n 0, 1) := by decide +kernel
theorem dX4_init_38 : decode cX4_init 38 = .ok (.new 9, 3) := by decide +kernel
theorem dX4_init_41 : decode cX4_init 41 = .ok (.dup, 1) := by decide +kernel
theorem dX4_init_42 : decode cX4_init 42 = .ok (.bipush 16, 2) := by decide +kernel
theorem dX4_init_44 : decode cX4_init 44 = .ok (.invokespecial 11, 3) := by decide +kernel
theorem dX4_init_47 : decode cX4_init 47 = .ok (.putfield 34, 3) := by decide +kernel
theorem dX4_init_50 : decode cX4_init 50 = .ok (.aload_n 0, 1) := by decide +kernel
theorem dX4_init_51 : decode cX4_init 51 = .ok (.new 9, 3) := by decide +kernel
theorem dX4_init_54 : decode cX4_init 54 = .ok (.dup, 1) := by decide +kernel
theorem dX4_init_55 : decode cX4_init 55 = .ok (.bipush 16, 2) := by decide +kernel
theorem dX4_init_57 : decode cX4_init 57 = .ok (.invokespecial 11, 3) := by decide +kernel
theorem dX4_init_60 : decode cX4_init 60 = .ok (.putfield 37, 3) := by decide +kernel
theorem dX4_init_63 : decode cX4_init 63 = .ok (.aload_n 0, 1) := by decide +kernel
theorem dX4_init_64 : decode cX4_init 64 = .ok (.new 9, 3) := by decide +kernel
theorem dX4_init_67 : decode cX4_init 67 = .ok (.dup, 1) := by decide +kernel
theorem dX4_init_68 : decode cX4_init 68 = .ok (.bipush 16, 2) := by decide +kernel
theorem dX4_init_70 : decode cX4_init 70 = .ok (.invokespecial 11, 3) := by decide +kernel
theorem dX4_init_73 : decode cX4_init 73 = .ok (.putfield 40, 3) := by decide +kernel
theorem dX4_init_76 : decode cX4_init 76 = .ok (.aload_n 0, 1) := by decide +kernel
theorem dX4_init_77 : decode cX4_init 77 = .ok (.new 9, 3) := by decide +kernel
theorem dX4_init_80 : decode cX4_init 80 = .ok (.dup, 1) := by decide +kernel
theorem dX4_init_81 : decode cX4_init 81 = .ok (.bipush 16, 2) := by decide +kernel
theorem dX4_init_83 : decode cX4_init 83 = .ok (.invokespecial 11, 3) := by decide +kernel
theorem dX4_init_86 : decode cX4_init 86 = .ok (.putfield 43, 3) := by decide +kernel
theorem dX4_init_89 : decode cX4_init 89 = .ok (.return_, 1) := by decide +kernel
theorem dX4_append_0 : decode cX4_append 0 = .ok (.aload_n 0, 1) := by decide +kernel
theorem dX4_append_1 : decode cX4_append 1 = .ok (.getfield 14, 3) := by decide +kernel
theorem dX4_append_4 : decode cX4_append 4 = .ok (.aload_n 0, 1) := by decide +kernel
theorem dX4_append_5 : decode cX4_append 5 = .ok (.getfield 20, 3) := by decide +kernel
theorem dX4_append_8 : decode cX4_append 8 = .ok (.iload_n 1, 1) := by decide +kernel
theorem dX4_append_9 : decode cX4_append 9 = .ok (.invokevirtual 46, 3) := by decide +kernel
theorem dX4_append_12 : decode cX4_append 12 = .ok (.aload_n 0, 1) := by decide +kernel
theorem dX4_append_13 : decode cX4_append 13 = .ok (.aload_n 0, 1) := by decide +kernel
theorem dX4_append_14 : decode cX4_append 14 = .ok (.getfield 20, 3) := by decide +kernel
theorem dX4_append_17 : decode cX4_append 17 = .ok (.iconst 1, 1) := by decide +kernel
theorem dX4_append_18 : decode cX4_append 18 = .ok (.iadd, 1) := by decide +kernel
theorem dX4_append_19 : decode cX4_append 19 = .ok (.putfield 20, 3) := by decide +kernel
theorem dX4_append_22 : decode cX4_append 22 = .ok (.aload_n 0, 1) := by decide +kernel
theorem dX4_append_23 : decode cX4_append 23 = .ok (.getfield 20, 3) := by decide +kernel
theorem dX4_append_26 : decode cX4_append 26 = .ok (.ireturn, 1) := by decide +kernel
theorem dX4_parse_0 : decode cX4_parse 0 = .ok (.aload_n 0, 1) := by decide +kernel
theorem dX4_parse_1 : decode cX4_parse 1 = .ok (.iconst 0, 1) := by decide +kernel
theorem dX4_parse_2 : decode cX4_parse 2 = .ok (.putfield 24, 3) := by decide +kernel
theorem dX4_parse_5 : decode cX4_parse 5 = .ok (.aload_n 0, 1) := by decide +kernel
theorem dX4_parse_6 : decode cX4_parse 6 = .ok (.iconst 1, 1) := by decide +kernel
theorem dX4_parse_7 : decode cX4_parse 7 = .ok (.putfield 27, 3) := by decide +kernel
theorem dX4_parse_10 : decode cX4_parse 10 = .ok (.aload_n 0, 1) := by decide +kernel
theorem dX4_parse_11 : decode cX4_parse 11 = .ok (.iconst 0, 1) := by decide +kernel
theorem dX4_parse_12 : decode cX4_parse 12 = .ok (.putfield 31, 3) := by decide +kernel
theorem dX4_parse_15 : decode cX4_parse 15 = .ok (.aload_n 0, 1) := by decide +kernel
theorem dX4_parse_16 : decode cX4_parse 16 = .ok (.invokevirtual 50, 3) := by decide +kernel
theorem dX4_parse_19 : decode cX4_parse 19 = .ok (.iconst 1, 1) := by decide +kernel
theorem dX4_parse_20 : decode cX4_parse 20 = .ok (.istore_n 1, 1) := by decide +kernel
theorem dX4_parse_21 : decode cX4_parse 21 = .ok (.iload_n 1, 1) := by decide +kernel
theorem dX4_parse_22 : decode cX4_parse 22 = .ok (.bipush 16, 2) := by decide +kernel
theorem dX4_parse_24 : decode cX4_parse 24 = .ok (.if_icmp .ge 39, 3) := by decide +kernel
theorem dX4_parse_27 : decode cX4_parse 27 = .ok (.aload_n 0, 1) := by decide +kernel
theorem dX4_parse_28 : decode cX4_parse 28 = .ok (.getfield 27, 3) := by decide +kernel
theorem dX4_parse_31 : decode cX4_parse 31 = .ok (.ifCond .eq 32, 3) := by decide +kernel
theorem dX4_parse_34 : decode cX4_parse 34 = .ok (.aload_n 0, 1) := by decide +kernel
theorem dX4_parse_35 : decode cX4_parse 35 = .ok (.invokevirtual 53, 3) := by decide +kernel
theorem dX4_parse_38 : decode cX4_parse 38 = .ok (.bipush 59, 2) := by decide +kernel
theorem dX4_parse_40 : decode cX4_parse 40 = .ok (.if_icmp .ne 23, 3) := by decide +kernel
theorem dX4_parse_43 : decode cX4_parse 43 = .ok (.aload_n 0, 1) := by decide +kernel
theorem dX4_parse_44 : decode cX4_parse 44 = .ok (.aload_n 0, 1) := by decide +kernel
theorem dX4_parse_45 : decode cX4_parse 45 = .ok (.getfield 24, 3) := by decide +kernel
theorem dX4_parse_48 : decode cX4_parse 48 = .ok (.iconst 1, 1) := by decide +kernel
theorem dX4_parse_49 : decode cX4_parse 49 = .ok (.iadd, 1) := by decide +kernel
theorem dX4_parse_50 : decode cX4_parse 50 = .ok (.putfield 24, 3) := by decide +kernel
theorem dX4_parse_53 : decode cX4_parse 53 = .ok (.aload_n 0, 1) := by decide +kernel
theorem dX4_parse_54 : decode cX4_parse 54 = .ok (.invokevirtual 50, 3) := by decide +kernel
theorem dX4_parse_57 : decode cX4_parse 57 = .ok (.iinc 1 1, 3) := by decide +kernel
theorem dX4_parse_60 : decode cX4_parse 60 = .ok (.goto (-39), 3) := by decide +kernel
theorem dX4_parse_63 : decode cX4_parse 63 = .ok (.aload_n 0, 1) := by decide +kernel
theorem dX4_parse_64 : decode cX4_parse 64 = .ok (.getfield 27, 3) := by decide +kernel
theorem dX4_parse_67 : decode cX4_parse 67 = .ok (.ifCond .eq 18, 3) := by decide +kernel
theorem dX4_parse_70 : decode cX4_parse 70 = .ok (.aload_n 0, 1) := by decide +kernel
theorem dX4_parse_71 : decode cX4_parse 71 = .ok (.getfield 24, 3) := by decide +kernel
theorem dX4_parse_74 : decode cX4_parse 74 = .ok (.aload_n 0, 1) := by decide +kernel
theorem dX4_parse_75 : decode cX4_parse 75 = .ok (.getfield 20, 3) := by decide +kernel
theorem dX4_parse_78 : decode cX4_parse 78 = .ok (.if_icmp .ne 7, 3) := by decide +kernel
theorem dX4_parse_81 : decode cX4_parse 81 = .ok (.iconst 1, 1) := by decide +kernel
theorem dX4_parse_82 : decode cX4_parse 82 = .ok (.goto 4, 3) := by decide +kernel
theorem dX4_parse_85 : decode cX4_parse 85 = .ok (.iconst 0, 1) := by decide +kernel
theorem dX4_parse_86 : decode cX4_parse 86 = .ok (.ireturn, 1) := by decide +kernel
theorem dX4_sign_0 : decode cX4_sign 0 = .ok (.aload_n 0, 1) := by decide +kernel
theorem dX4_sign_1 : decode cX4_sign 1 = .ok (.getfield 24, 3) := by decide +kernel
theorem dX4_sign_4 : decode cX4_sign 4 = .ok (.aload_n 0, 1) := by decide +kernel
theorem dX4_sign_5 : decode cX4_sign 5 = .ok (.getfield 20, 3) := by decide +kernel
theorem dX4_sign_8 : decode cX4_sign 8 = .ok (.if_icmp .ge 17, 3) := by decide +kernel
theorem dX4_sign_11 : decode cX4_sign 11 = .ok (.aload_n 0, 1) := by decide +kernel
theorem dX4_sign_12 : decode cX4_sign 12 = .ok (.getfield 14, 3) := by decide +kernel
theorem dX4_sign_15 : decode cX4_sign 15 = .ok (.aload_n 0, 1) := by decide +kernel
theorem dX4_sign_16 : decode cX4_sign 16 = .ok (.getfield 24, 3) := by decide +kernel
theorem dX4_sign_19 : decode cX4_sign 19 = .ok (.invokevirtual 57, 3) := by decide +kernel
theorem dX4_sign_22 : decode cX4_sign 22 = .ok (.goto 4, 3) := by decide +kernel
theorem dX4_sign_25 : decode cX4_sign 25 = .ok (.iconst (-1), 1) := by decide +kernel
theorem dX4_sign_26 : decode cX4_sign 26 = .ok (.ireturn, 1) := by decide +kernel
theorem dX4_parseChoice_0 : decode cX4_parseChoice 0 = .ok (.aload_n 0, 1) := by decide +kernel
theorem dX4_parseChoice_1 : decode cX4_parseChoice 1 = .ok (.invokevirtual 60, 3) := by decide +kernel
theorem dX4_parseChoice_4 : decode cX4_parseChoice 4 = .ok (.istore_n 1, 1) := by decide +kernel
theorem dX4_parseChoice_5 : decode cX4_parseChoice 5 = .ok (.aload_n 0, 1) := by decide +kernel
theorem dX4_parseChoice_6 : decode cX4_parseChoice 6 = .ok (.invokevirtual 63, 3) := by decide +kernel
theorem dX4_parseChoice_9 : decode cX4_parseChoice 9 = .ok (.aload_n 0, 1) := by decide +kernel
theorem dX4_parseChoice_10 : decode cX4_parseChoice 10 = .ok (.invokevirtual 60, 3) := by decide +kernel
theorem dX4_parseChoice_13 : decode cX4_parseChoice 13 = .ok (.istore_n 2, 1) := by decide +kernel
theorem dX4_parseChoice_14 : decode cX4_parseChoice 14 = .ok (.aload_n 0, 1) := by decide +kernel
theorem dX4_parseChoice_15 : decode cX4_parseChoice 15 = .ok (.bipush 43, 2) := by decide +kernel
theorem dX4_parseChoice_17 : decode cX4_parseChoice 17 = .ok (.invokevirtual 66, 3) := by decide +kernel
theorem dX4_parseChoice_20 : decode cX4_parseChoice 20 = .ok (.istore_n 3, 1) := by decide +kernel
theorem dX4_parseChoice_21 : decode cX4_parseChoice 21 = .ok (.aload_n 0, 1) := by decide +kernel
theorem dX4_parseChoice_22 : decode cX4_parseChoice 22 = .ok (.bipush 45, 2) := by decide +kernel
theorem dX4_parseChoice_24 : decode cX4_parseChoice 24 = .ok (.invokevirtual 66, 3) := by decide +kernel
theorem dX4_parseChoice_27 : decode cX4_parseChoice 27 = .ok (.istore 4, 2) := by decide +kernel
theorem dX4_parseChoice_29 : decode cX4_parseChoice 29 = .ok (.aload_n 0, 1) := by decide +kernel
theorem dX4_parseChoice_30 : decode cX4_parseChoice 30 = .ok (.getfield 27, 3) := by decide +kernel
theorem dX4_parseChoice_33 : decode cX4_parseChoice 33 = .ok (.ifCond .eq 62, 3) := by decide +kernel
theorem dX4_parseChoice_36 : decode cX4_parseChoice 36 = .ok (.aload_n 0, 1) := by decide +kernel
theorem dX4_parseChoice_37 : decode cX4_parseChoice 37 = .ok (.getfield 34, 3) := by decide +kernel
theorem dX4_parseChoice_40 : decode cX4_parseChoice 40 = .ok (.aload_n 0, 1) := by decide +kernel
theorem dX4_parseChoice_41 : decode cX4_parseChoice 41 = .ok (.getfield 31, 3) := by decide +kernel
theorem dX4_parseChoice_44 : decode cX4_parseChoice 44 = .ok (.iload_n 1, 1) := by decide +kernel
theorem dX4_parseChoice_45 : decode cX4_parseChoice 45 = .ok (.invokevirtual 46, 3) := by decide +kernel
theorem dX4_parseChoice_48 : decode cX4_parseChoice 48 = .ok (.aload_n 0, 1) := by decide +kernel
theorem dX4_parseChoice_49 : decode cX4_parseChoice 49 = .ok (.getfield 37, 3) := by decide +kernel
theorem dX4_parseChoice_52 : decode cX4_parseChoice 52 = .ok (.aload_n 0, 1) := by decide +kernel
theorem dX4_parseChoice_53 : decode cX4_parseChoice 53 = .ok (.getfield 31, 3) := by decide +kernel
theorem dX4_parseChoice_56 : decode cX4_parseChoice 56 = .ok (.iload_n 2, 1) := by decide +kernel
theorem dX4_parseChoice_57 : decode cX4_parseChoice 57 = .ok (.invokevirtual 46, 3) := by decide +kernel
theorem dX4_parseChoice_60 : decode cX4_parseChoice 60 = .ok (.aload_n 0, 1) := by decide +kernel
theorem dX4_parseChoice_61 : decode cX4_parseChoice 61 = .ok (.getfield 40, 3) := by decide +kernel
theorem dX4_parseChoice_64 : decode cX4_parseChoice 64 = .ok (.aload_n 0, 1) := by decide +kernel
theorem dX4_parseChoice_65 : decode cX4_parseChoice 65 = .ok (.getfield 31, 3) := by decide +kernel
theorem dX4_parseChoice_68 : decode cX4_parseChoice 68 = .ok (.iload_n 3, 1) := by decide +kernel
theorem dX4_parseChoice_69 : decode cX4_parseChoice 69 = .ok (.invokevirtual 46, 3) := by decide +kernel
theorem dX4_parseChoice_72 : decode cX4_parseChoice 72 = .ok (.aload_n 0, 1) := by decide +kernel
theorem dX4_parseChoice_73 : decode cX4_parseChoice 73 = .ok (.getfield 43, 3) := by decide +kernel
theorem dX4_parseChoice_76 : decode cX4_parseChoice 76 = .ok (.aload_n 0, 1) := by decide +kernel
theorem dX4_parseChoice_77 : decode cX4_parseChoice 77 = .ok (.getfield 31, 3) := by decide +kernel
theorem dX4_parseChoice_80 : decode cX4_parseChoice 80 = .ok (.iload 4, 2) := by decide +kernel
theorem dX4_parseChoice_82 : decode cX4_parseChoice 82 = .ok (.invokevirtual 46, 3) := by decide +kernel
theorem dX4_parseChoice_85 : decode cX4_parseChoice 85 = .ok (.aload_n 0, 1) := by decide +kernel
theorem dX4_parseChoice_86 : decode cX4_parseChoice 86 = .ok (.aload_n 0, 1) := by decide +kernel
theorem dX4_parseChoice_87 : decode cX4_parseChoice 87 = .ok (.getfield 31, 3) := by decide +kernel
theorem dX4_parseChoice_90 : decode cX4_parseChoice 90 = .ok (.iconst 1, 1) := by decide +kernel
theorem dX4_parseChoice_91 : decode cX4_parseChoice 91 = .ok (.iadd, 1) := by decide +kernel
theorem dX4_parseChoice_92 : decode cX4_parseChoice 92 = .ok (.putfield 31, 3) := by decide +kernel
theorem dX4_parseChoice_95 : decode cX4_parseChoice 95 = .ok (.return_, 1) := by decide +kernel
theorem dX4_parseNumber_0 : decode cX4_parseNumber 0 = .ok (.aload_n 0, 1) := by decide +kernel
theorem dX4_parseNumber_1 : decode cX4_parseNumber 1 = .ok (.getfield 27, 3) := by decide +kernel
theorem dX4_parseNumber_4 : decode cX4_parseNumber 4 = .ok (.ifCond .eq 13, 3) := by decide +kernel
theorem dX4_parseNumber_7 : decode cX4_parseNumber 7 = .ok (.aload_n 0, 1) := by decide +kernel
theorem dX4_parseNumber_8 : decode cX4_parseNumber 8 = .ok (.invokevirtual 53, 3) := by decide +kernel
theorem dX4_parseNumber_11 : decode cX4_parseNumber 11 = .ok (.invokestatic 70, 3) := by decide +kernel
theorem dX4_parseNumber_14 : decode cX4_parseNumber 14 = .ok (.ifCond .ne 10, 3) := by decide +kernel
theorem dX4_parseNumber_17 : decode cX4_parseNumber 17 = .ok (.aload_n 0, 1) := by decide +kernel
theorem dX4_parseNumber_18 : decode cX4_parseNumber 18 = .ok (.iconst 0, 1) := by decide +kernel
theorem dX4_parseNumber_19 : decode cX4_parseNumber 19 = .ok (.putfield 27, 3) := by decide +kernel
theorem dX4_parseNumber_22 : decode cX4_parseNumber 22 = .ok (.iconst 0, 1) := by decide +kernel
theorem dX4_parseNumber_23 : decode cX4_parseNumber 23 = .ok (.ireturn, 1) := by decide +kernel
theorem dX4_parseNumber_24 : decode cX4_parseNumber 24 = .ok (.aload_n 0, 1) := by decide +kernel
theorem dX4_parseNumber_25 : decode cX4_parseNumber 25 = .ok (.invokevirtual 53, 3) := by decide +kernel
theorem dX4_parseNumber_28 : decode cX4_parseNumber 28 = .ok (.bipush 48, 2) := by decide +kernel
theorem dX4_parseNumber_30 : decode cX4_parseNumber 30 = .ok (.isub, 1) := by decide +kernel
theorem dX4_parseNumber_31 : decode cX4_parseNumber 31 = .ok (.istore_n 1, 1) := by decide +kernel
theorem dX4_parseNumber_32 : decode cX4_parseNumber 32 = .ok (.aload_n 0, 1) := by decide +kernel
theorem dX4_parseNumber_33 : decode cX4_parseNumber 33 = .ok (.aload_n 0, 1) := by decide +kernel
theorem dX4_parseNumber_34 : decode cX4_parseNumber 34 = .ok (.getfield 24, 3) := by decide +kernel
theorem dX4_parseNumber_37 : decode cX4_parseNumber 37 = .ok (.iconst 1, 1) := by decide +kernel
theorem dX4_parseNumber_38 : decode cX4_parseNumber 38 = .ok (.iadd, 1) := by decide +kernel
theorem dX4_parseNumber_39 : decode cX4_parseNumber 39 = .ok (.putfield 24, 3) := by decide +kernel
theorem dX4_parseNumber_42 : decode cX4_parseNumber 42 = .ok (.iload_n 1, 1) := by decide +kernel
theorem dX4_parseNumber_43 : decode cX4_parseNumber 43 = .ok (.ifCond .eq 13, 3) := by decide +kernel
theorem dX4_parseNumber_46 : decode cX4_parseNumber 46 = .ok (.aload_n 0, 1) := by decide +kernel
theorem dX4_parseNumber_47 : decode cX4_parseNumber 47 = .ok (.invokevirtual 53, 3) := by decide +kernel
theorem dX4_parseNumber_50 : decode cX4_parseNumber 50 = .ok (.invokestatic 70, 3) := by decide +kernel
theorem dX4_parseNumber_53 : decode cX4_parseNumber 53 = .ok (.ifCond .ne 5, 3) := by decide +kernel
theorem dX4_parseNumber_56 : decode cX4_parseNumber 56 = .ok (.iload_n 1, 1) := by decide +kernel
theorem dX4_parseNumber_57 : decode cX4_parseNumber 57 = .ok (.ireturn, 1) := by decide +kernel
theorem dX4_parseNumber_58 : decode cX4_parseNumber 58 = .ok (.iload_n 1, 1) := by decide +kernel
theorem dX4_parseNumber_59 : decode cX4_parseNumber 59 = .ok (.bipush 10, 2) := by decide +kernel
theorem dX4_parseNumber_61 : decode cX4_parseNumber 61 = .ok (.imul, 1) := by decide +kernel
theorem dX4_parseNumber_62 : decode cX4_parseNumber 62 = .ok (.aload_n 0, 1) := by decide +kernel
theorem dX4_parseNumber_63 : decode cX4_parseNumber 63 = .ok (.invokevirtual 53, 3) := by decide +kernel
theorem dX4_parseNumber_66 : decode cX4_parseNumber 66 = .ok (.iadd, 1) := by decide +kernel
theorem dX4_parseNumber_67 : decode cX4_parseNumber 67 = .ok (.bipush 48, 2) := by decide +kernel
theorem dX4_parseNumber_69 : decode cX4_parseNumber 69 = .ok (.isub, 1) := by decide +kernel
theorem dX4_parseNumber_70 : decode cX4_parseNumber 70 = .ok (.istore_n 2, 1) := by decide +kernel
theorem dX4_parseNumber_71 : decode cX4_parseNumber 71 = .ok (.iload_n 2, 1) := by decide +kernel
theorem dX4_parseNumber_72 : decode cX4_parseNumber 72 = .ok (.bipush 32, 2) := by decide +kernel
theorem dX4_parseNumber_74 : decode cX4_parseNumber 74 = .ok (.if_icmp .lt 5, 3) := by decide +kernel
theorem dX4_parseNumber_77 : decode cX4_parseNumber 77 = .ok (.iload_n 1, 1) := by decide +kernel
theorem dX4_parseNumber_78 : decode cX4_parseNumber 78 = .ok (.ireturn, 1) := by decide +kernel
theorem dX4_parseNumber_79 : decode cX4_parseNumber 79 = .ok (.aload_n 0, 1) := by decide +kernel
theorem dX4_parseNumber_80 : decode cX4_parseNumber 80 = .ok (.aload_n 0, 1) := by decide +kernel
theorem dX4_parseNumber_81 : decode cX4_parseNumber 81 = .ok (.getfield 24, 3) := by decide +kernel
theorem dX4_parseNumber_84 : decode cX4_parseNumber 84 = .ok (.iconst 1, 1) := by decide +kernel
theorem dX4_parseNumber_85 : decode cX4_parseNumber 85 = .ok (.iadd, 1) := by decide +kernel
theorem dX4_parseNumber_86 : decode cX4_parseNumber 86 = .ok (.putfield 24, 3) := by decide +kernel
theorem dX4_parseNumber_89 : decode cX4_parseNumber 89 = .ok (.iload_n 2, 1) := by decide +kernel
theorem dX4_parseNumber_90 : decode cX4_parseNumber 90 = .ok (.ireturn, 1) := by decide +kernel
theorem dX4_parseArrow_0 : decode cX4_parseArrow 0 = .ok (.aload_n 0, 1) := by decide +kernel
theorem dX4_parseArrow_1 : decode cX4_parseArrow 1 = .ok (.getfield 27, 3) := by decide +kernel
theorem dX4_parseArrow_4 : decode cX4_parseArrow 4 = .ok (.ifCond .eq 12, 3) := by decide +kernel
theorem dX4_parseArrow_7 : decode cX4_parseArrow 7 = .ok (.aload_n 0, 1) := by decide +kernel
theorem dX4_parseArrow_8 : decode cX4_parseArrow 8 = .ok (.invokevirtual 53, 3) := by decide +kernel
theorem dX4_parseArrow_11 : decode cX4_parseArrow 11 = .ok (.bipush 62, 2) := by decide +kernel
theorem dX4_parseArrow_13 : decode cX4_parseArrow 13 = .ok (.if_icmp .eq 9, 3) := by decide +kernel
theorem dX4_parseArrow_16 : decode cX4_parseArrow 16 = .ok (.aload_n 0, 1) := by decide +kernel
theorem dX4_parseArrow_17 : decode cX4_parseArrow 17 = .ok (.iconst 0, 1) := by decide +kernel
theorem dX4_parseArrow_18 : decode cX4_parseArrow 18 = .ok (.putfield 27, 3) := by decide +kernel
theorem dX4_parseArrow_21 : decode cX4_parseArrow 21 = .ok (.return_, 1) := by decide +kernel
theorem dX4_parseArrow_22 : decode cX4_parseArrow 22 = .ok (.aload_n 0, 1) := by decide +kernel
theorem dX4_parseArrow_23 : decode cX4_parseArrow 23 = .ok (.aload_n 0, 1) := by decide +kernel
theorem dX4_parseArrow_24 : decode cX4_parseArrow 24 = .ok (.getfield 24, 3) := by decide +kernel
theorem dX4_parseArrow_27 : decode cX4_parseArrow 27 = .ok (.iconst 1, 1) := by decide +kernel
theorem dX4_parseArrow_28 : decode cX4_parseArrow 28 = .ok (.iadd, 1) := by decide +kernel
theorem dX4_parseArrow_29 : decode cX4_parseArrow 29 = .ok (.putfield 24, 3) := by decide +kernel
theorem dX4_parseArrow_32 : decode cX4_parseArrow 32 = .ok (.return_, 1) := by decide +kernel
theorem dX4_parseFlags_0 : decode cX4_parseFlags 0 = .ok (.aload_n 0, 1) := by decide +kernel
theorem dX4_parseFlags_1 : decode cX4_parseFlags 1 = .ok (.getfield 27, 3) := by decide +kernel
theorem dX4_parseFlags_4 : decode cX4_parseFlags 4 = .ok (.ifCond .eq 11, 3) := by decide +kernel
theorem dX4_parseFlags_7 : decode cX4_parseFlags 7 = .ok (.aload_n 0, 1) := by decide +kernel
theorem dX4_parseFlags_8 : decode cX4_parseFlags 8 = .ok (.invokevirtual 53, 3) := by decide +kernel
theorem dX4_parseFlags_11 : decode cX4_parseFlags 11 = .ok (.iload_n 1, 1) := by decide +kernel
theorem dX4_parseFlags_12 : decode cX4_parseFlags 12 = .ok (.if_icmp .eq 5, 3) := by decide +kernel
theorem dX4_parseFlags_15 : decode cX4_parseFlags 15 = .ok (.iconst 0, 1) := by decide +kernel
theorem dX4_parseFlags_16 : decode cX4_parseFlags 16 = .ok (.ireturn, 1) := by decide +kernel
theorem dX4_parseFlags_17 : decode cX4_parseFlags 17 = .ok (.aload_n 0, 1) := by decide +kernel
theorem dX4_parseFlags_18 : decode cX4_parseFlags 18 = .ok (.aload_n 0, 1) := by decide +kernel
theorem dX4_parseFlags_19 : decode cX4_parseFlags 19 = .ok (.getfield 24, 3) := by decide +kernel
theorem dX4_parseFlags_22 : decode cX4_parseFlags 22 = .ok (.iconst 1, 1) := by decide +kernel
theorem dX4_parseFlags_23 : decode cX4_parseFlags 23 = .ok (.iadd, 1) := by decide +kernel
theorem dX4_parseFlags_24 : decode cX4_parseFlags 24 = .ok (.putfield 24, 3) := by decide +kernel
theorem dX4_parseFlags_27 : decode cX4_parseFlags 27 = .ok (.iconst 0, 1) := by decide +kernel
theorem dX4_parseFlags_28 : decode cX4_parseFlags 28 = .ok (.istore_n 2, 1) := by decide +kernel
theorem dX4_parseFlags_29 : decode cX4_parseFlags 29 = .ok (.iconst 0, 1) := by decide +kernel
theorem dX4_parseFlags_30 : decode cX4_parseFlags 30 = .ok (.istore_n 3, 1) := by decide +kernel
theorem dX4_parseFlags_31 : decode cX4_parseFlags 31 = .ok (.iload_n 3, 1) := by decide +kernel
theorem dX4_parseFlags_32 : decode cX4_parseFlags 32 = .ok (.iconst 5, 1) := by decide +kernel
theorem dX4_parseFlags_33 : decode cX4_parseFlags 33 = .ok (.if_icmp .ge 36, 3) := by decide +kernel
theorem dX4_parseFlags_36 : decode cX4_parseFlags 36 = .ok (.aload_n 0, 1) := by decide +kernel
theorem dX4_parseFlags_37 : decode cX4_parseFlags 37 = .ok (.invokevirtual 53, 3) := by decide +kernel
theorem dX4_parseFlags_40 : decode cX4_parseFlags 40 = .ok (.bipush 97, 2) := by decide +kernel
theorem dX4_parseFlags_42 : decode cX4_parseFlags 42 = .ok (.iload_n 3, 1) := by decide +kernel
theorem dX4_parseFlags_43 : decode cX4_parseFlags 43 = .ok (.iadd, 1) := by decide +kernel
theorem dX4_parseFlags_44 : decode cX4_parseFlags 44 = .ok (.if_icmp .ne 19, 3) := by decide +kernel
theorem dX4_parseFlags_47 : decode cX4_parseFlags 47 = .ok (.iload_n 2, 1) := by decide +kernel
theorem dX4_parseFlags_48 : decode cX4_parseFlags 48 = .ok (.iconst 1, 1) := by decide +kernel
theorem dX4_parseFlags_49 : decode cX4_parseFlags 49 = .ok (.iload_n 3, 1) := by decide +kernel
theorem dX4_parseFlags_50 : decode cX4_parseFlags 50 = .ok (.ishl, 1) := by decide +kernel
theorem dX4_parseFlags_51 : decode cX4_parseFlags 51 = .ok (.ior, 1) := by decide +kernel
theorem dX4_parseFlags_52 : decode cX4_parseFlags 52 = .ok (.istore_n 2, 1) := by decide +kernel
theorem dX4_parseFlags_53 : decode cX4_parseFlags 53 = .ok (.aload_n 0, 1) := by decide +kernel
theorem dX4_parseFlags_54 : decode cX4_parseFlags 54 = .ok (.aload_n 0, 1) := by decide +kernel
theorem dX4_parseFlags_55 : decode cX4_parseFlags 55 = .ok (.getfield 24, 3) := by decide +kernel
theorem dX4_parseFlags_58 : decode cX4_parseFlags 58 = .ok (.iconst 1, 1) := by decide +kernel
theorem dX4_parseFlags_59 : decode cX4_parseFlags 59 = .ok (.iadd, 1) := by decide +kernel
theorem dX4_parseFlags_60 : decode cX4_parseFlags 60 = .ok (.putfield 24, 3) := by decide +kernel
theorem dX4_parseFlags_63 : decode cX4_parseFlags 63 = .ok (.iinc 3 1, 3) := by decide +kernel
theorem dX4_parseFlags_66 : decode cX4_parseFlags 66 = .ok (.goto (-35), 3) := by decide +kernel
theorem dX4_parseFlags_69 : decode cX4_parseFlags 69 = .ok (.aload_n 0, 1) := by decide +kernel
theorem dX4_parseFlags_70 : decode cX4_parseFlags 70 = .ok (.iload_n 2, 1) := by decide +kernel
theorem dX4_parseFlags_71 : decode cX4_parseFlags 71 = .ok (.ifCond .eq 7, 3) := by decide +kernel
theorem dX4_parseFlags_74 : decode cX4_parseFlags 74 = .ok (.iconst 1, 1) := by decide +kernel
theorem dX4_parseFlags_75 : decode cX4_parseFlags 75 = .ok (.goto 4, 3) := by decide +kernel
theorem dX4_parseFlags_78 : decode cX4_parseFlags 78 = .ok (.iconst 0, 1) := by decide +kernel
theorem dX4_parseFlags_79 : decode cX4_parseFlags 79 = .ok (.putfield 27, 3) := by decide +kernel
theorem dX4_parseFlags_82 : decode cX4_parseFlags 82 = .ok (.iload_n 2, 1) := by decide +kernel
theorem dX4_parseFlags_83 : decode cX4_parseFlags 83 = .ok (.ireturn, 1) := by decide +kernel
theorem dX4_isDigit_0 : decode cX4_isDigit 0 = .ok (.iload_n 0, 1) := by decide +kernel
theorem dX4_isDigit_1 : decode cX4_isDigit 1 = .ok (.bipush 48, 2) := by decide +kernel
theorem dX4_isDigit_3 : decode cX4_isDigit 3 = .ok (.if_icmp .lt 13, 3) := by decide +kernel
theorem dX4_isDigit_6 : decode cX4_isDigit 6 = .ok (.iload_n 0, 1) := by decide +kernel
theorem dX4_isDigit_7 : decode cX4_isDigit 7 = .ok (.bipush 57, 2) := by decide +kernel
theorem dX4_isDigit_9 : decode cX4_isDigit 9 = .ok (.if_icmp .gt 7, 3) := by decide +kernel
theorem dX4_isDigit_12 : decode cX4_isDigit 12 = .ok (.iconst 1, 1) := by decide +kernel
theorem dX4_isDigit_13 : decode cX4_isDigit 13 = .ok (.goto 4, 3) := by decide +kernel
theorem dX4_isDigit_16 : decode cX4_isDigit 16 = .ok (.iconst 0, 1) := by decide +kernel
theorem dX4_isDigit_17 : decode cX4_isDigit 17 = .ok (.ireturn, 1) := by decide +kernel
theorem dX5_init_0 : decode cX5_init 0 = .ok (.aload_n 0, 1) := by decide +kernel
theorem dX5_init_1 : decode cX5_init 1 = .ok (.invokespecial 3, 3) := by decide +kernel
theorem dX5_init_4 : decode cX5_init 4 = .ok (.aload_n 0, 1) := by decide +kernel
theorem dX5_init_5 : decode cX5_init 5 = .ok (.new 9, 3) := by decide +kernel
theorem dX5_init_8 : decode cX5_init 8 = .ok (.dup, 1) := by decide +kernel
theorem dX5_init_9 : decode cX5_init 9 = .ok (.invokespecial 11, 3) := by decide +kernel
theorem dX5_init_12 : decode cX5_init 12 = .ok (.putfield 12, 3) := by decide +kernel
theorem dX5_init_15 : decode cX5_init 15 = .ok (.aload_n 0, 1) := by decide +kernel
theorem dX5_init_16 : decode cX5_init 16 = .ok (.new 9, 3) := by decide +kernel
theorem dX5_init_19 : decode cX5_init 19 = .ok (.dup, 1) := by decide +kernel
theorem dX5_init_20 : decode cX5_init 20 = .ok (.invokespecial 11, 3) := by decide +kernel
theorem dX5_init_23 : decode cX5_init 23 = .ok (.putfield 16, 3) := by decide +kernel
theorem dX5_init_26 : decode cX5_init 26 = .ok (.aload_n 0, 1) := by decide +kernel
theorem dX5_init_27 : decode cX5_init 27 = .ok (.new 9, 3) := by decide +kernel
theorem dX5_init_30 : decode cX5_init 30 = .ok (.dup, 1) := by decide +kernel
theorem dX5_init_31 : decode cX5_init 31 = .ok (.invokespecial 11, 3) := by decide +kernel
theorem dX5_init_34 : decode cX5_init 34 = .ok (.putfield 19, 3) := by decide +kernel
theorem dX5_init_37 : decode cX5_init 37 = .ok (.aload_n 0, 1) := by decide +kernel
theorem dX5_init_38 : decode cX5_init 38 = .ok (.iconst 0, 1) := by decide +kernel
theorem dX5_init_39 : decode cX5_init 39 = .ok (.putfield 22, 3) := by decide +kernel
theorem dX5_init_42 : decode cX5_init 42 = .ok (.aload_n 0, 1) := by decide +kernel
theorem dX5_init_43 : decode cX5_init 43 = .ok (.new 26, 3) := by decide +kernel
theorem dX5_init_46 : decode cX5_init 46 = .ok (.dup, 1) := by decide +kernel
theorem dX5_init_47 : decode cX5_init 47 = .ok (.invokespecial 28, 3) := by decide +kernel
theorem dX5_init_50 : decode cX5_init 50 = .ok (.putfield 29, 3) := by decide +kernel
theorem dX5_init_53 : decode cX5_init 53 = .ok (.aload_n 0, 1) := by decide +kernel
theorem dX5_init_54 : decode cX5_init 54 = .ok (.new 33, 3) := by decide +kernel
theorem dX5_init_57 : decode cX5_init 57 = .ok (.dup, 1) := by decide +kernel
theorem dX5_init_58 : decode cX5_init 58 = .ok (.invokespecial 35, 3) := by decide +kernel
theorem dX5_init_61 : decode cX5_init 61 = .ok (.putfield 36, 3) := by decide +kernel
theorem dX5_init_64 : decode cX5_init 64 = .ok (.aload_n 0, 1) := by decide +kernel
theorem dX5_init_65 : decode cX5_init 65 = .ok (.new 40, 3) := by decide +kernel
theorem dX5_init_68 : decode cX5_init 68 = .ok (.dup, 1) := by decide +kernel
theorem dX5_init_69 : decode cX5_init 69 = .ok (.invokespecial 42, 3) := by decide +kernel
theorem dX5_init_72 : decode cX5_init 72 = .ok (.putfield 43, 3) := by decide +kernel
theorem dX5_init_75 : decode cX5_init 75 = .ok (.return_, 1) := by decide +kernel
theorem dX5_addPage_0 : decode cX5_addPage 0 = .ok (.iload_n 1, 1) := by decide +kernel
theorem dX5_addPage_1 : decode cX5_addPage 1 = .ok (.invokestatic 47, 3) := by decide +kernel
theorem dX5_addPage_4 : decode cX5_addPage 4 = .ok (.ifCond .eq 17, 3) := by decide +kernel
theorem dX5_addPage_7 : decode cX5_addPage 7 = .ok (.iload_n 2, 1) := by decide +kernel
theorem dX5_addPage_8 : decode cX5_addPage 8 = .ok (.invokestatic 51, 3) := by decide +kernel
theorem dX5_addPage_11 : decode cX5_addPage 11 = .ok (.ifCond .eq 10, 3) := by decide +kernel
theorem dX5_addPage_14 : decode cX5_addPage 14 = .ok (.iload_n 3, 1) := by decide +kernel
theorem dX5_addPage_15 : decode cX5_addPage 15 = .ok (.invokestatic 51, 3) := by decide +kernel
theorem dX5_addPage_18 : decode cX5_addPage 18 = .ok (.ifCond .ne 6, 3) := by decide +kernel
theorem dX5_addPage_21 : decode cX5_addPage 21 = .ok (.bipush (-2), 2) := by decide +kernel
theorem dX5_addPage_23 : decode cX5_addPage 23 = .ok (.ireturn, 1) := by decide +kernel
theorem dX5_addPage_24 : decode cX5_addPage 24 = .ok (.aload_n 0, 1) := by decide +kernel
theorem dX5_addPage_25 : decode cX5_addPage 25 = .ok (.getfield 12, 3) := by decide +kernel
theorem dX5_addPage_28 : decode cX5_addPage 28 = .ok (.getfield 54, 3) := by decide +kernel
theorem dX5_addPage_31 : decode cX5_addPage 31 = .ok (.bipush 32, 2) := by decide +kernel
theorem dX5_addPage_33 : decode cX5_addPage 33 = .ok (.if_icmp .lt 6, 3) := by decide +kernel
theorem dX5_addPage_36 : decode cX5_addPage 36 = .ok (.bipush (-3), 2) := by decide +kernel
theorem dX5_addPage_38 : decode cX5_addPage 38 = .ok (.ireturn, 1) := by decide +kernel
theorem dX5_addPage_39 : decode cX5_addPage 39 = .ok (.aload_n 0, 1) := by decide +kernel
theorem dX5_addPage_40 : decode cX5_addPage 40 = .ok (.invokevirtual 58, 3) := by decide +kernel
theorem dX5_addPage_43 : decode cX5_addPage 43 = .ok (.aload_n 0, 1) := by decide +kernel
theorem dX5_addPage_44 : decode cX5_addPage 44 = .ok (.getfield 12, 3) := by decide +kernel
theorem dX5_addPage_47 : decode cX5_addPage 47 = .ok (.iload_n 1, 1) := by decide +kernel
theorem dX5_addPage_48 : decode cX5_addPage 48 = .ok (.iload_n 2, 1) := by decide +kernel
theorem dX5_addPage_49 : decode cX5_addPage 49 = .ok (.iload_n 3, 1) := by decide +kernel
theorem dX5_addPage_50 : decode cX5_addPage 50 = .ok (.invokevirtual 61, 3) := by decide +kernel
theorem dX5_addPage_53 : decode cX5_addPage 53 = .ok (.ireturn, 1) := by decide +kernel
theorem dX5_setMood_0 : decode cX5_setMood 0 = .ok (.aload_n 0, 1) := by decide +kernel
theorem dX5_setMood_1 : decode cX5_setMood 1 = .ok (.getfield 12, 3) := by decide +kernel
theorem dX5_setMood_4 : decode cX5_setMood 4 = .ok (.iload_n 1, 1) := by decide +kernel
theorem dX5_setMood_5 : decode cX5_setMood 5 = .ok (.invokevirtual 65, 3) := by decide +kernel
theorem dX5_setMood_8 : decode cX5_setMood 8 = .ok (.ifCond .ne 5, 3) := by decide +kernel
theorem dX5_setMood_11 : decode cX5_setMood 11 = .ok (.iconst (-1), 1) := by decide +kernel
theorem dX5_setMood_12 : decode cX5_setMood 12 = .ok (.ireturn, 1) := by decide +kernel
theorem dX5_setMood_13 : decode cX5_setMood 13 = .ok (.iload_n 2, 1) := by decide +kernel
theorem dX5_setMood_14 : decode cX5_setMood 14 = .ok (.invokestatic 47, 3) := by decide +kernel
theorem dX5_setMood_17 : decode cX5_setMood 17 = .ok (.ifCond .ne 6, 3) := by decide +kernel
theorem dX5_setMood_20 : decode cX5_setMood 20 = .ok (.bipush (-2), 2) := by decide +kernel
theorem dX5_setMood_22 : decode cX5_setMood 22 = .ok (.ireturn, 1) := by decide +kernel
theorem dX5_setMood_23 : decode cX5_setMood 23 = .ok (.aload_n 0, 1) := by decide +kernel
theorem dX5_setMood_24 : decode cX5_setMood 24 = .ok (.getfield 12, 3) := by decide +kernel
theorem dX5_setMood_27 : decode cX5_setMood 27 = .ok (.getfield 68, 3) := by decide +kernel
theorem dX5_setMood_30 : decode cX5_setMood 30 = .ok (.iload_n 1, 1) := by decide +kernel
theorem dX5_setMood_31 : decode cX5_setMood 31 = .ok (.invokevirtual 72, 3) := by decide +kernel
theorem dX5_setMood_34 : decode cX5_setMood 34 = .ok (.iload_n 2, 1) := by decide +kernel
theorem dX5_setMood_35 : decode cX5_setMood 35 = .ok (.if_icmp .ne 6, 3) := by decide +kernel
theorem dX5_setMood_38 : decode cX5_setMood 38 = .ok (.bipush (-5), 2) := by decide +kernel
theorem dX5_setMood_40 : decode cX5_setMood 40 = .ok (.ireturn, 1) := by decide +kernel
theorem dX5_setMood_41 : decode cX5_setMood 41 = .ok (.aload_n 0, 1) := by decide +kernel
theorem dX5_setMood_42 : decode cX5_setMood 42 = .ok (.invokevirtual 58, 3) := by decide +kernel
theorem dX5_setMood_45 : decode cX5_setMood 45 = .ok (.aload_n 0, 1) := by decide +kernel
theorem dX5_setMood_46 : decode cX5_setMood 46 = .ok (.getfield 12, 3) := by decide +kernel
theorem dX5_setMood_49 : decode cX5_setMood 49 = .ok (.getfield 68, 3) := by decide +kernel
theorem dX5_setMood_52 : decode cX5_setMood 52 = .ok (.iload_n 1, 1) := by decide +kernel
theorem dX5_setMood_53 : decode cX5_setMood 53 = .ok (.iload_n 2, 1) := by decide +kernel
theorem dX5_setMood_54 : decode cX5_setMood 54 = .ok (.invokevirtual 78, 3) := by decide +kernel
theorem dX5_setMood_57 : decode cX5_setMood 57 = .ok (.aload_n 0, 1) := by decide +kernel
theorem dX5_setMood_58 : decode cX5_setMood 58 = .ok (.getfield 12, 3) := by decide +kernel
theorem dX5_setMood_61 : decode cX5_setMood 61 = .ok (.getfield 82, 3) := by decide +kernel
theorem dX5_setMood_64 : decode cX5_setMood 64 = .ok (.iload_n 1, 1) := by decide +kernel
theorem dX5_setMood_65 : decode cX5_setMood 65 = .ok (.invokevirtual 72, 3) := by decide +kernel
theorem dX5_setMood_68 : decode cX5_setMood 68 = .ok (.ireturn, 1) := by decide +kernel
theorem dX5_addChoice_0 : decode cX5_addChoice 0 = .ok (.aload_n 0, 1) := by decide +kernel
theorem dX5_addChoice_1 : decode cX5_addChoice 1 = .ok (.getfield 12, 3) := by decide +kernel
theorem dX5_addChoice_4 : decode cX5_addChoice 4 = .ok (.iload_n 1, 1) := by decide +kernel
theorem dX5_addChoice_5 : decode cX5_addChoice 5 = .ok (.iload_n 2, 1) := by decide +kernel
theorem dX5_addChoice_6 : decode cX5_addChoice 6 = .ok (.iload_n 3, 1) := by decide +kernel
theorem dX5_addChoice_7 : decode cX5_addChoice 7 = .ok (.iload 4, 2) := by decide +kernel
theorem dX5_addChoice_9 : decode cX5_addChoice 9 = .ok (.invokevirtual 85, 3) := by decide +kernel
theorem dX5_addChoice_12 : decode cX5_addChoice 12 = .ok (.istore 5, 2) := by decide +kernel
theorem dX5_addChoice_14 : decode cX5_addChoice 14 = .ok (.iload 5, 2) := by decide +kernel
theorem dX5_addChoice_16 : decode cX5_addChoice 16 = .ok (.ifCond .eq 6, 3) := by decide +kernel
theorem dX5_addChoice_19 : decode cX5_addChoice 19 = .ok (.iload 5, 2) := by decide +kernel
theorem dX5_addChoice_21 : decode cX5_addChoice 21 = .ok (.ireturn, 1) := by decide +kernel
theorem dX5_addChoice_22 : decode cX5_addChoice 22 = .ok (.aload_n 0, 1) := by decide +kernel
theorem dX5_addChoice_23 : decode cX5_addChoice 23 = .ok (.invokevirtual 58, 3) := by decide +kernel
theorem dX5_addChoice_26 : decode cX5_addChoice 26 = .ok (.aload_n 0, 1) := by decide +kernel
theorem dX5_addChoice_27 : decode cX5_addChoice 27 = .ok (.getfield 12, 3) := by decide +kernel
theorem dX5_addChoice_30 : decode cX5_addChoice 30 = .ok (.iload_n 1, 1) := by decide +kernel
theorem dX5_addChoice_31 : decode cX5_addChoice 31 = .ok (.iload_n 2, 1) := by decide +kernel
theorem dX5_addChoice_32 : decode cX5_addChoice 32 = .ok (.iload_n 3, 1) := by decide +kernel
theorem dX5_addChoice_33 : decode cX5_addChoice 33 = .ok (.iload 4, 2) := by decide +kernel
theorem dX5_addChoice_35 : decode cX5_addChoice 35 = .ok (.invokevirtual 89, 3) := by decide +kernel
theorem dX5_addChoice_38 : decode cX5_addChoice 38 = .ok (.ireturn, 1) := by decide +kernel
theorem dX5_addChoices_0 : decode cX5_addChoices 0 = .ok (.aload_n 0, 1) := by decide +kernel
theorem dX5_addChoices_1 : decode cX5_addChoices 1 = .ok (.getfield 36, 3) := by decide +kernel
theorem dX5_addChoices_4 : decode cX5_addChoices 4 = .ok (.invokevirtual 92, 3) := by decide +kernel
theorem dX5_addChoices_7 : decode cX5_addChoices 7 = .ok (.ifCond .ne 14, 3) := by decide +kernel
theorem dX5_addChoices_10 : decode cX5_addChoices 10 = .ok (.bipush (-100), 2) := by decide +kernel
theorem dX5_addChoices_12 : decode cX5_addChoices 12 = .ok (.aload_n 0, 1) := by decide +kernel
theorem dX5_addChoices_13 : decode cX5_addChoices 13 = .ok (.getfield 36, 3) := by decide +kernel
theorem dX5_addChoices_16 : decode cX5_addChoices 16 = .ok (.getfield 96, 3) := by decide +kernel
theorem dX5_addChoices_19 : decode cX5_addChoices 19 = .ok (.isub, 1) := by decide +kernel
theorem dX5_addChoices_20 : decode cX5_addChoices 20 = .ok (.ireturn, 1) := by decide +kernel
theorem dX5_addChoices_21 : decode cX5_addChoices 21 = .ok (.aload_n 0, 1) := by decide +kernel
theorem dX5_addChoices_22 : decode cX5_addChoices 22 = .ok (.getfield 16, 3) := by decide +kernel
theorem dX5_addChoices_25 : decode cX5_addChoices 25 = .ok (.aload_n 0, 1) := by decide +kernel
theorem dX5_addChoices_26 : decode cX5_addChoices 26 = .ok (.getfield 12, 3) := by decide +kernel
theorem dX5_addChoices_29 : decode cX5_addChoices 29 = .ok (.invokevirtual 98, 3) := by decide +kernel
theorem dX5_addChoices_32 : decode cX5_addChoices 32 = .ok (.iconst 0, 1) := by decide +kernel
theorem dX5_addChoices_33 : decode cX5_addChoices 33 = .ok (.istore_n 1, 1) := by decide +kernel
theorem dX5_addChoices_34 : decode cX5_addChoices 34 = .ok (.iload_n 1, 1) := by decide +kernel
theorem dX5_addChoices_35 : decode cX5_addChoices 35 = .ok (.aload_n 0, 1) := by decide +kernel
theorem dX5_addChoices_36 : decode cX5_addChoices 36 = .ok (.getfield 36, 3) := by decide +kernel
theorem dX5_addChoices_39 : decode cX5_addChoices 39 = .ok (.getfield 102, 3) := by decide +kernel
theorem dX5_addChoices_42 : decode cX5_addChoices 42 = .ok (.if_icmp .ge 102, 3) := by decide +kernel
theorem dX5_addChoices_45 : decode cX5_addChoices 45 = .ok (.iload_n 1, 1) := by decide +kernel
theorem dX5_addChoices_46 : decode cX5_addChoices 46 = .ok (.bipush 16, 2) := by decide +kernel
theorem dX5_addChoices_48 : decode cX5_addChoices 48 = .ok (.if_icmp .ge 96, 3) := by decide +kernel
theorem dX5_addChoices_51 : decode cX5_addChoices 51 = .ok (.aload_n 0, 1) := by decide +kernel
theorem dX5_addChoices_52 : decode cX5_addChoices 52 = .ok (.getfield 36, 3) := by decide +kernel
theorem dX5_addChoices_55 : decode cX5_addChoices 55 = .ok (.getfield 105, 3) := by decide +kernel
theorem dX5_addChoices_58 : decode cX5_addChoices 58 = .ok (.iload_n 1, 1) := by decide +kernel
theorem dX5_addChoices_59 : decode cX5_addChoices 59 = .ok (.invokevirtual 72, 3) := by decide +kernel
theorem dX5_addChoices_62 : decode cX5_addChoices 62 = .ok (.istore_n 2, 1) := by decide +kernel
theorem dX5_addChoices_63 : decode cX5_addChoices 63 = .ok (.aload_n 0, 1) := by decide +kernel
theorem dX5_addChoices_64 : decode cX5_addChoices 64 = .ok (.getfield 36, 3) := by decide +kernel
theorem dX5_addChoices_67 : decode cX5_addChoices 67 = .ok (.getfield 108, 3) := by decide +kernel
theorem dX5_addChoices_70 : decode cX5_addChoices 70 = .ok (.iload_n 1, 1) := by decide +kernel
theorem dX5_addChoices_71 : decode cX5_addChoices 71 = .ok (.invokevirtual 72, 3) := by decide +kernel
theorem dX5_addChoices_74 : decode cX5_addChoices 74 = .ok (.istore_n 3, 1) := by decide +kernel
theorem dX5_addChoices_75 : decode cX5_addChoices 75 = .ok (.aload_n 0, 1) := by decide +kernel
theorem dX5_addChoices_76 : decode cX5_addChoices 76 = .ok (.getfield 36, 3) := by decide +kernel
theorem dX5_addChoices_79 : decode cX5_addChoices 79 = .ok (.getfield 111, 3) := by decide +kernel
theorem dX5_addChoices_82 : decode cX5_addChoices 82 = .ok (.iload_n 1, 1) := by decide +kernel
theorem dX5_addChoices_83 : decode cX5_addChoices 83 = .ok (.invokevirtual 72, 3) := by decide +kernel
theorem dX5_addChoices_86 : decode cX5_addChoices 86 = .ok (.istore 4, 2) := by decide +kernel
theorem dX5_addChoices_88 : decode cX5_addChoices 88 = .ok (.aload_n 0, 1) := by decide +kernel
theorem dX5_addChoices_89 : decode cX5_addChoices 89 = .ok (.getfield 36, 3) := by decide +kernel
theorem dX5_addChoices_92 : decode cX5_addChoices 92 = .ok (.getfield 114, 3) := by decide +kernel
theorem dX5_addChoices_95 : decode cX5_addChoices 95 = .ok (.iload_n 1, 1) := by decide +kernel
theorem dX5_addChoices_96 : decode cX5_addChoices 96 = .ok (.invokevirtual 72, 3) := by decide +kernel
theorem dX5_addChoices_99 : decode cX5_addChoices 99 = .ok (.istore 5, 2) := by decide +kernel
theorem dX5_addChoices_101 : decode cX5_addChoices 101 = .ok (.aload_n 0, 1) := by decide +kernel
theorem dX5_addChoices_102 : decode cX5_addChoices 102 = .ok (.getfield 16, 3) := by decide +kernel
theorem dX5_addChoices_105 : decode cX5_addChoices 105 = .ok (.iload_n 2, 1) := by decide +kernel
theorem dX5_addChoices_106 : decode cX5_addChoices 106 = .ok (.iload_n 3, 1) := by decide +kernel
theorem dX5_addChoices_107 : decode cX5_addChoices 107 = .ok (.iload 4, 2) := by decide +kernel
theorem dX5_addChoices_109 : decode cX5_addChoices 109 = .ok (.iload 5, 2) := by decide +kernel
theorem dX5_addChoices_111 : decode cX5_addChoices 111 = .ok (.invokevirtual 85, 3) := by decide +kernel
theorem dX5_addChoices_114 : decode cX5_addChoices 114 = .ok (.istore 6, 2) := by decide +kernel
theorem dX5_addChoices_116 : decode cX5_addChoices 116 = .ok (.iload 6, 2) := by decide +kernel
theorem dX5_addChoices_118 : decode cX5_addChoices 118 = .ok (.ifCond .eq 6, 3) := by decide +kernel
theorem dX5_addChoices_121 : decode cX5_addChoices 121 = .ok (.iload 6, 2) := by decide +kernel
theorem dX5_addChoices_123 : decode cX5_addChoices 123 = .ok (.ireturn, 1) := by decide +kernel
theorem dX5_addChoices_124 : decode cX5_addChoices 124 = .ok (.aload_n 0, 1) := by decide +kernel
theorem dX5_addChoices_125 : decode cX5_addChoices 125 = .ok (.getfield 16, 3) := by decide +kernel
theorem dX5_addChoices_128 : decode cX5_addChoices 128 = .ok (.iload_n 2, 1) := by decide +kernel
theorem dX5_addChoices_129 : decode cX5_addChoices 129 = .ok (.iload_n 3, 1) := by decide +kernel
theorem dX5_addChoices_130 : decode cX5_addChoices 130 = .ok (.iload 4, 2) := by decide +kernel
theorem dX5_addChoices_132 : decode cX5_addChoices 132 = .ok (.iload 5, 2) := by decide +kernel
theorem dX5_addChoices_134 : decode cX5_addChoices 134 = .ok (.invokevirtual 89, 3) := by decide +kernel
theorem dX5_addChoices_137 : decode cX5_addChoices 137 = .ok (.pop, 1) := by decide +kernel
theorem dX5_addChoices_138 : decode cX5_addChoices 138 = .ok (.iinc 1 1, 3) := by decide +kernel
theorem dX5_addChoices_141 : decode cX5_addChoices 141 = .ok (.goto (-107), 3) := by decide +kernel
theorem dX5_addChoices_144 : decode cX5_addChoices 144 = .ok (.aload_n 0, 1) := by decide +kernel
theorem dX5_addChoices_145 : decode cX5_addChoices 145 = .ok (.invokevirtual 58, 3) := by decide +kernel
theorem dX5_addChoices_148 : decode cX5_addChoices 148 = .ok (.aload_n 0, 1) := by decide +kernel
theorem dX5_addChoices_149 : decode cX5_addChoices 149 = .ok (.getfield 12, 3) := by decide +kernel
theorem dX5_addChoices_152 : decode cX5_addChoices 152 = .ok (.aload_n 0, 1) := by decide +kernel
theorem dX5_addChoices_153 : decode cX5_addChoices 153 = .ok (.getfield 16, 3) := by decide +kernel
theorem dX5_addChoices_156 : decode cX5_addChoices 156 = .ok (.invokevirtual 98, 3) := by decide +kernel
theorem dX5_addChoices_159 : decode cX5_addChoices 159 = .ok (.aload_n 0, 1) := by decide +kernel
theorem dX5_addChoices_160 : decode cX5_addChoices 160 = .ok (.getfield 36, 3) := by decide +kernel
theorem dX5_addChoices_163 : decode cX5_addChoices 163 = .ok (.getfield 102, 3) := by decide +kernel
theorem dX5_addChoices_166 : decode cX5_addChoices 166 = .ok (.ireturn, 1) := by decide +kernel
theorem dX5_takeChoice_0 : decode cX5_takeChoice 0 = .ok (.aload_n 0, 1) := by decide +kernel
theorem dX5_takeChoice_1 : decode cX5_takeChoice 1 = .ok (.getfield 12, 3) := by decide +kernel
theorem dX5_takeChoice_4 : decode cX5_takeChoice 4 = .ok (.iload_n 1, 1) := by decide +kernel
theorem dX5_takeChoice_5 : decode cX5_takeChoice 5 = .ok (.iload_n 2, 1) := by decide +kernel
theorem dX5_takeChoice_6 : decode cX5_takeChoice 6 = .ok (.invokevirtual 117, 3) := by decide +kernel
theorem dX5_takeChoice_9 : decode cX5_takeChoice 9 = .ok (.ifCond .ne 5, 3) := by decide +kernel
theorem dX5_takeChoice_12 : decode cX5_takeChoice 12 = .ok (.iconst (-1), 1) := by decide +kernel
theorem dX5_takeChoice_13 : decode cX5_takeChoice 13 = .ok (.ireturn, 1) := by decide +kernel
theorem dX5_takeChoice_14 : decode cX5_takeChoice 14 = .ok (.aload_n 0, 1) := by decide +kernel
theorem dX5_takeChoice_15 : decode cX5_takeChoice 15 = .ok (.invokevirtual 58, 3) := by decide +kernel
theorem dX5_takeChoice_18 : decode cX5_takeChoice 18 = .ok (.aload_n 0, 1) := by decide +kernel
theorem dX5_takeChoice_19 : decode cX5_takeChoice 19 = .ok (.getfield 12, 3) := by decide +kernel
theorem dX5_takeChoice_22 : decode cX5_takeChoice 22 = .ok (.iload_n 1, 1) := by decide +kernel
theorem dX5_takeChoice_23 : decode cX5_takeChoice 23 = .ok (.iload_n 2, 1) := by decide +kernel
theorem dX5_takeChoice_24 : decode cX5_takeChoice 24 = .ok (.invokevirtual 121, 3) := by decide +kernel
theorem dX5_takeChoice_27 : decode cX5_takeChoice 27 = .ok (.ireturn, 1) := by decide +kernel
theorem dX5_exchange_0 : decode cX5_exchange 0 = .ok (.aload_n 0, 1) := by decide +kernel
theorem dX5_exchange_1 : decode cX5_exchange 1 = .ok (.getfield 12, 3) := by decide +kernel
theorem dX5_exchange_4 : decode cX5_exchange 4 = .ok (.iload_n 1, 1) := by decide +kernel
theorem dX5_exchange_5 : decode cX5_exchange 5 = .ok (.invokevirtual 65, 3) := by decide +kernel
theorem dX5_exchange_8 : decode cX5_exchange 8 = .ok (.ifCond .eq 14, 3) := by decide +kernel
theorem dX5_exchange_11 : decode cX5_exchange 11 = .ok (.aload_n 0, 1) := by decide +kernel
theorem dX5_exchange_12 : decode cX5_exchange 12 = .ok (.getfield 12, 3) := by decide +kernel
theorem dX5_exchange_15 : decode cX5_exchange 15 = .ok (.iload_n 2, 1) := by decide +kernel
theorem dX5_exchange_16 : decode cX5_exchange 16 = .ok (.invokevirtual 65, 3) := by decide +kernel
theorem dX5_exchange_19 : decode cX5_exchange 19 = .ok (.ifCond .ne 5, 3) := by decide +kernel
theorem dX5_exchange_22 : decode cX5_exchange 22 = .ok (.iconst (-1), 1) := by decide +kernel
theorem dX5_exchange_23 : decode cX5_exchange 23 = .ok (.ireturn, 1) := by decide +kernel
theorem dX5_exchange_24 : decode cX5_exchange 24 = .ok (.iload_n 1, 1) := by decide +kernel
theorem dX5_exchange_25 : decode cX5_exchange 25 = .ok (.iload_n 2, 1) := by decide +kernel
theorem dX5_exchange_26 : decode cX5_exchange 26 = .ok (.if_icmp .ne 6, 3) := by decide +kernel
theorem dX5_exchange_29 : decode cX5_exchange 29 = .ok (.bipush (-5), 2) := by decide +kernel
theorem dX5_exchange_31 : decode cX5_exchange 31 = .ok (.ireturn, 1) := by decide +kernel
theorem dX5_exchange_32 : decode cX5_exchange 32 = .ok (.aload_n 0, 1) := by decide +kernel
theorem dX5_exchange_33 : decode cX5_exchange 33 = .ok (.invokevirtual 58, 3) := by decide +kernel
theorem dX5_exchange_36 : decode cX5_exchange 36 = .ok (.aload_n 0, 1) := by decide +kernel
theorem dX5_exchange_37 : decode cX5_exchange 37 = .ok (.getfield 12, 3) := by decide +kernel
theorem dX5_exchange_40 : decode cX5_exchange 40 = .ok (.iload_n 1, 1) := by decide +kernel
theorem dX5_exchange_41 : decode cX5_exchange 41 = .ok (.iload_n 2, 1) := by decide +kernel
theorem dX5_exchange_42 : decode cX5_exchange 42 = .ok (.invokevirtual 125, 3) := by decide +kernel
theorem dX5_exchange_45 : decode cX5_exchange 45 = .ok (.aload_n 0, 1) := by decide +kernel
theorem dX5_exchange_46 : decode cX5_exchange 46 = .ok (.getfield 12, 3) := by decide +kernel
theorem dX5_exchange_49 : decode cX5_exchange 49 = .ok (.iload_n 1, 1) := by decide +kernel
theorem dX5_exchange_50 : decode cX5_exchange 50 = .ok (.invokevirtual 128, 3) := by decide +kernel
theorem dX5_exchange_53 : decode cX5_exchange 53 = .ok (.aload_n 0, 1) := by decide +kernel
theorem dX5_exchange_54 : decode cX5_exchange 54 = .ok (.getfield 12, 3) := by decide +kernel
theorem dX5_exchange_57 : decode cX5_exchange 57 = .ok (.iload_n 2, 1) := by decide +kernel
theorem dX5_exchange_58 : decode cX5_exchange 58 = .ok (.invokevirtual 128, 3) := by decide +kernel
theorem dX5_exchange_61 : decode cX5_exchange 61 = .ok (.iadd, 1) := by decide +kernel
theorem dX5_exchange_62 : decode cX5_exchange 62 = .ok (.ireturn, 1) := by decide +kernel
theorem dX5_begin_0 : decode cX5_begin 0 = .ok (.iload_n 1, 1) := by decide +kernel
theorem dX5_begin_1 : decode cX5_begin 1 = .ok (.invokestatic 131, 3) := by decide +kernel
theorem dX5_begin_4 : decode cX5_begin 4 = .ok (.ifCond .ne 5, 3) := by decide +kernel
theorem dX5_begin_7 : decode cX5_begin 7 = .ok (.iconst (-1), 1) := by decide +kernel
theorem dX5_begin_8 : decode cX5_begin 8 = .ok (.ireturn, 1) := by decide +kernel
theorem dX5_begin_9 : decode cX5_begin 9 = .ok (.aload_n 0, 1) := by decide +kernel
theorem dX5_begin_10 : decode cX5_begin 10 = .ok (.getfield 12, 3) := by decide +kernel
theorem dX5_begin_13 : decode cX5_begin 13 = .ok (.getfield 54, 3) := by decide +kernel
theorem dX5_begin_16 : decode cX5_begin 16 = .ok (.ifCond .ne 6, 3) := by decide +kernel
theorem dX5_begin_19 : decode cX5_begin 19 = .ok (.bipush (-4), 2) := by decide +kernel
theorem dX5_begin_21 : decode cX5_begin 21 = .ok (.ireturn, 1) := by decide +kernel
theorem dX5_begin_22 : decode cX5_begin 22 = .ok (.aload_n 0, 1) := by decide +kernel
theorem dX5_begin_23 : decode cX5_begin 23 = .ok (.invokevirtual 58, 3) := by decide +kernel
theorem dX5_begin_26 : decode cX5_begin 26 = .ok (.aload_n 0, 1) := by decide +kernel
theorem dX5_begin_27 : decode cX5_begin 27 = .ok (.getfield 12, 3) := by decide +kernel
theorem dX5_begin_30 : decode cX5_begin 30 = .ok (.invokevirtual 134, 3) := by decide +kernel
theorem dX5_begin_33 : decode cX5_begin 33 = .ok (.istore_n 2, 1) := by decide +kernel
theorem dX5_begin_34 : decode cX5_begin 34 = .ok (.aload_n 0, 1) := by decide +kernel
theorem dX5_begin_35 : decode cX5_begin 35 = .ok (.getfield 12, 3) := by decide +kernel
theorem dX5_begin_38 : decode cX5_begin 38 = .ok (.iload_n 1, 1) := by decide +kernel
theorem dX5_begin_39 : decode cX5_begin 39 = .ok (.iload_n 2, 1) := by decide +kernel
theorem dX5_begin_40 : decode cX5_begin 40 = .ok (.iconst 0, 1) := by decide +kernel
theorem dX5_begin_41 : decode cX5_begin 41 = .ok (.invokevirtual 138, 3) := by decide +kernel
theorem dX5_begin_44 : decode cX5_begin 44 = .ok (.iload_n 2, 1) := by decide +kernel
theorem dX5_begin_45 : decode cX5_begin 45 = .ok (.invokestatic 142, 3) := by decide +kernel
theorem dX5_begin_48 : decode cX5_begin 48 = .ok (.ireturn, 1) := by decide +kernel
theorem dX5_choose_0 : decode cX5_choose 0 = .ok (.iload_n 1, 1) := by decide +kernel
theorem dX5_choose_1 : decode cX5_choose 1 = .ok (.invokestatic 131, 3) := by decide +kernel
theorem dX5_choose_4 : decode cX5_choose 4 = .ok (.ifCond .ne 5, 3) := by decide +kernel
theorem dX5_choose_7 : decode cX5_choose 7 = .ok (.iconst (-1), 1) := by decide +kernel
theorem dX5_choose_8 : decode cX5_choose 8 = .ok (.ireturn, 1) := by decide +kernel
theorem dX5_choose_9 : decode cX5_choose 9 = .ok (.iload_n 2, 1) := by decide +kernel
theorem dX5_choose_10 : decode cX5_choose 10 = .ok (.invokestatic 145, 3) := by decide +kernel
theorem dX5_choose_13 : decode cX5_choose 13 = .ok (.ifCond .ne 6, 3) := by decide +kernel
theorem dX5_choose_16 : decode cX5_choose 16 = .ok (.bipush (-2), 2) := by decide +kernel
theorem dX5_choose_18 : decode cX5_choose 18 = .ok (.ireturn, 1) := by decide +kernel
theorem dX5_choose_19 : decode cX5_choose 19 = .ok (.aload_n 0, 1) := by decide +kernel
theorem dX5_choose_20 : decode cX5_choose 20 = .ok (.getfield 12, 3) := by decide +kernel
theorem dX5_choose_23 : decode cX5_choose 23 = .ok (.iload_n 1, 1) := by decide +kernel
theorem dX5_choose_24 : decode cX5_choose 24 = .ok (.iload_n 2, 1) := by decide +kernel
theorem dX5_choose_25 : decode cX5_choose 25 = .ok (.invokevirtual 148, 3) := by decide +kernel
theorem dX5_choose_28 : decode cX5_choose 28 = .ok (.ifCond .eq 6, 3) := by decide +kernel
theorem dX5_choose_31 : decode cX5_choose 31 = .ok (.bipush (-4), 2) := by decide +kernel
theorem dX5_choose_33 : decode cX5_choose 33 = .ok (.ireturn, 1) := by decide +kernel
theorem dX5_choose_34 : decode cX5_choose 34 = .ok (.aload_n 0, 1) := by decide +kernel
theorem dX5_choose_35 : decode cX5_choose 35 = .ok (.invokevirtual 58, 3) := by decide +kernel
theorem dX5_choose_38 : decode cX5_choose 38 = .ok (.aload_n 0, 1) := by decide +kernel
theorem dX5_choose_39 : decode cX5_choose 39 = .ok (.getfield 12, 3) := by decide +kernel
theorem dX5_choose_42 : decode cX5_choose 42 = .ok (.aload_n 0, 1) := by decide +kernel
theorem dX5_choose_43 : decode cX5_choose 43 = .ok (.getfield 12, 3) := by decide +kernel
theorem dX5_choose_46 : decode cX5_choose 46 = .ok (.getfield 151, 3) := by decide +kernel
theorem dX5_choose_49 : decode cX5_choose 49 = .ok (.iload_n 1, 1) := by decide +kernel
theorem dX5_choose_50 : decode cX5_choose 50 = .ok (.invokevirtual 72, 3) := by decide +kernel
theorem dX5_choose_53 : decode cX5_choose 53 = .ok (.iload_n 2, 1) := by decide +kernel
theorem dX5_choose_54 : decode cX5_choose 54 = .ok (.invokevirtual 154, 3) := by decide +kernel
theorem dX5_choose_57 : decode cX5_choose 57 = .ok (.istore_n 3, 1) := by decide +kernel
theorem dX5_choose_58 : decode cX5_choose 58 = .ok (.aload_n 0, 1) := by decide +kernel
theorem dX5_choose_59 : decode cX5_choose 59 = .ok (.getfield 12, 3) := by decide +kernel
theorem dX5_choose_62 : decode cX5_choose 62 = .ok (.iload_n 1, 1) := by decide +kernel
theorem dX5_choose_63 : decode cX5_choose 63 = .ok (.iload_n 3, 1) := by decide +kernel
theorem dX5_choose_64 : decode cX5_choose 64 = .ok (.aload_n 0, 1) := by decide +kernel
theorem dX5_choose_65 : decode cX5_choose 65 = .ok (.getfield 12, 3) := by decide +kernel
theorem dX5_choose_68 : decode cX5_choose 68 = .ok (.getfield 157, 3) := by decide +kernel
theorem dX5_choose_71 : decode cX5_choose 71 = .ok (.iload_n 1, 1) := by decide +kernel
theorem dX5_choose_72 : decode cX5_choose 72 = .ok (.invokevirtual 72, 3) := by decide +kernel
theorem dX5_choose_75 : decode cX5_choose 75 = .ok (.iconst 1, 1) := by decide +kernel
theorem dX5_choose_76 : decode cX5_choose 76 = .ok (.iadd, 1) := by decide +kernel
theorem dX5_choose_77 : decode cX5_choose 77 = .ok (.invokevirtual 138, 3) := by decide +kernel
theorem dX5_choose_80 : decode cX5_choose 80 = .ok (.iload_n 3, 1) := by decide +kernel
theorem dX5_choose_81 : decode cX5_choose 81 = .ok (.invokestatic 160, 3) := by decide +kernel
theorem dX5_choose_84 : decode cX5_choose 84 = .ok (.ireturn, 1) := by decide +kernel
theorem dX5_mark_0 : decode cX5_mark 0 = .ok (.iload_n 1, 1) := by decide +kernel
theorem dX5_mark_1 : decode cX5_mark 1 = .ok (.invokestatic 131, 3) := by decide +kernel
theorem dX5_mark_4 : decode cX5_mark 4 = .ok (.ifCond .ne 5, 3) := by decide +kernel
theorem dX5_mark_7 : decode cX5_mark 7 = .ok (.iconst (-1), 1) := by decide +kernel
theorem dX5_mark_8 : decode cX5_mark 8 = .ok (.ireturn, 1) := by decide +kernel
theorem dX5_mark_9 : decode cX5_mark 9 = .ok (.aload_n 0, 1) := by decide +kernel
theorem dX5_mark_10 : decode cX5_mark 10 = .ok (.getfield 12, 3) := by decide +kernel
theorem dX5_mark_13 : decode cX5_mark 13 = .ok (.getfield 151, 3) := by decide +kernel
theorem dX5_mark_16 : decode cX5_mark 16 = .ok (.iload_n 1, 1) := by decide +kernel
theorem dX5_mark_17 : decode cX5_mark 17 = .ok (.invokevirtual 72, 3) := by decide +kernel
theorem dX5_mark_20 : decode cX5_mark 20 = .ok (.istore_n 2, 1) := by decide +kernel
theorem dX5_mark_21 : decode cX5_mark 21 = .ok (.iload_n 2, 1) := by decide +kernel
theorem dX5_mark_22 : decode cX5_mark 22 = .ok (.iconst (-1), 1) := by decide +kernel
theorem dX5_mark_23 : decode cX5_mark 23 = .ok (.if_icmp .ne 6, 3) := by decide +kernel
theorem dX5_mark_26 : decode cX5_mark 26 = .ok (.bipush (-4), 2) := by decide +kernel
theorem dX5_mark_28 : decode cX5_mark 28 = .ok (.ireturn, 1) := by decide +kernel
theorem dX5_mark_29 : decode cX5_mark 29 = .ok (.aload_n 0, 1) := by decide +kernel
theorem dX5_mark_30 : decode cX5_mark 30 = .ok (.getfield 12, 3) := by decide +kernel
theorem dX5_mark_33 : decode cX5_mark 33 = .ok (.getfield 163, 3) := by decide +kernel
theorem dX5_mark_36 : decode cX5_mark 36 = .ok (.iload_n 2, 1) := by decide +kernel
theorem dX5_mark_37 : decode cX5_mark 37 = .ok (.if_icmp .ne 6, 3) := by decide +kernel
theorem dX5_mark_40 : decode cX5_mark 40 = .ok (.bipush (-5), 2) := by decide +kernel
theorem dX5_mark_42 : decode cX5_mark 42 = .ok (.ireturn, 1) := by decide +kernel
theorem dX5_mark_43 : decode cX5_mark 43 = .ok (.aload_n 0, 1) := by decide +kernel
theorem dX5_mark_44 : decode cX5_mark 44 = .ok (.invokevirtual 58, 3) := by decide +kernel
theorem dX5_mark_47 : decode cX5_mark 47 = .ok (.aload_n 0, 1) := by decide +kernel
theorem dX5_mark_48 : decode cX5_mark 48 = .ok (.getfield 12, 3) := by decide +kernel
theorem dX5_mark_51 : decode cX5_mark 51 = .ok (.iload_n 2, 1) := by decide +kernel
theorem dX5_mark_52 : decode cX5_mark 52 = .ok (.putfield 163, 3) := by decide +kernel
theorem dX5_mark_55 : decode cX5_mark 55 = .ok (.iload_n 2, 1) := by decide +kernel
theorem dX5_mark_56 : decode cX5_mark 56 = .ok (.invokestatic 160, 3) := by decide +kernel
theorem dX5_mark_59 : decode cX5_mark 59 = .ok (.ireturn, 1) := by decide +kernel
theorem dX5_goToMark_0 : decode cX5_goToMark 0 = .ok (.iload_n 1, 1) := by decide +kernel
theorem dX5_goToMark_1 : decode cX5_goToMark 1 = .ok (.invokestatic 131, 3) := by decide +kernel
theorem dX5_goToMark_4 : decode cX5_goToMark 4 = .ok (.ifCond .ne 5, 3) := by decide +kernel
theorem dX5_goToMark_7 : decode cX5_goToMark 7 = .ok (.iconst (-1), 1) := by decide +kernel
theorem dX5_goToMark_8 : decode cX5_goToMark 8 = .ok (.ireturn, 1) := by decide +kernel
theorem dX5_goToMark_9 : decode cX5_goToMark 9 = .ok (.aload_n 0, 1) := by decide +kernel
theorem dX5_goToMark_10 : decode cX5_goToMark 10 = .ok (.getfield 12, 3) := by decide +kernel
theorem dX5_goToMark_13 : decode cX5_goToMark 13 = .ok (.getfield 163, 3) := by decide +kernel
theorem dX5_goToMark_16 : decode cX5_goToMark 16 = .ok (.iconst (-1), 1) := by decide +kernel
theorem dX5_goToMark_17 : decode cX5_goToMark 17 = .ok (.if_icmp .ne 6, 3) := by decide +kernel
theorem dX5_goToMark_20 : decode cX5_goToMark 20 = .ok (.bipush (-4), 2) := by decide +kernel
theorem dX5_goToMark_22 : decode cX5_goToMark 22 = .ok (.ireturn, 1) := by decide +kernel
theorem dX5_goToMark_23 : decode cX5_goToMark 23 = .ok (.aload_n 0, 1) := by decide +kernel
theorem dX5_goToMark_24 : decode cX5_goToMark 24 = .ok (.getfield 12, 3) := by decide +kernel
theorem dX5_goToMark_27 : decode cX5_goToMark 27 = .ok (.getfield 151, 3) := by decide +kernel
theorem dX5_goToMark_30 : decode cX5_goToMark 30 = .ok (.iload_n 1, 1) := by decide +kernel
theorem dX5_goToMark_31 : decode cX5_goToMark 31 = .ok (.invokevirtual 72, 3) := by decide +kernel
theorem dX5_goToMark_34 : decode cX5_goToMark 34 = .ok (.aload_n 0, 1) := by decide +kernel
theorem dX5_goToMark_35 : decode cX5_goToMark 35 = .ok (.getfield 12, 3) := by decide +kernel
theorem dX5_goToMark_38 : decode cX5_goToMark 38 = .ok (.getfield 163, 3) := by decide +kernel
theorem dX5_goToMark_41 : decode cX5_goToMark 41 = .ok (.if_icmp .ne 6, 3) := by decide +kernel
theorem dX5_goToMark_44 : decode cX5_goToMark 44 = .ok (.bipush (-5), 2) := by decide +kernel
theorem dX5_goToMark_46 : decode cX5_goToMark 46 = .ok (.ireturn, 1) := by decide +kernel
theorem dX5_goToMark_47 : decode cX5_goToMark 47 = .ok (.aload_n 0, 1) := by decide +kernel
theorem dX5_goToMark_48 : decode cX5_goToMark 48 = .ok (.invokevirtual 58, 3) := by decide +kernel
theorem dX5_goToMark_51 : decode cX5_goToMark 51 = .ok (.aload_n 0, 1) := by decide +kernel
theorem dX5_goToMark_52 : decode cX5_goToMark 52 = .ok (.getfield 12, 3) := by decide +kernel
theorem dX5_goToMark_55 : decode cX5_goToMark 55 = .ok (.iload_n 1, 1) := by decide +kernel
theorem dX5_goToMark_56 : decode cX5_goToMark 56 = .ok (.aload_n 0, 1) := by decide +kernel
theorem dX5_goToMark_57 : decode cX5_goToMark 57 = .ok (.getfield 12, 3) := by decide +kernel
theorem dX5_goToMark_60 : decode cX5_goToMark 60 = .ok (.getfield 163, 3) := by decide +kernel
theorem dX5_goToMark_63 : decode cX5_goToMark 63 = .ok (.iconst 0, 1) := by decide +kernel
theorem dX5_goToMark_64 : decode cX5_goToMark 64 = .ok (.invokevirtual 138, 3) := by decide +kernel
theorem dX5_goToMark_67 : decode cX5_goToMark 67 = .ok (.aload_n 0, 1) := by decide +kernel
theorem dX5_goToMark_68 : decode cX5_goToMark 68 = .ok (.getfield 12, 3) := by decide +kernel
theorem dX5_goToMark_71 : decode cX5_goToMark 71 = .ok (.getfield 163, 3) := by decide +kernel
theorem dX5_goToMark_74 : decode cX5_goToMark 74 = .ok (.invokestatic 160, 3) := by decide +kernel
theorem dX5_goToMark_77 : decode cX5_goToMark 77 = .ok (.ireturn, 1) := by decide +kernel
theorem dX5_type_0 : decode cX5_type 0 = .ok (.aload_n 0, 1) := by decide +kernel
theorem dX5_type_1 : decode cX5_type 1 = .ok (.getfield 36, 3) := by decide +kernel
theorem dX5_type_4 : decode cX5_type 4 = .ok (.getfield 166, 3) := by decide +kernel
theorem dX5_type_7 : decode cX5_type 7 = .ok (.bipush 60, 2) := by decide +kernel
theorem dX5_type_9 : decode cX5_type 9 = .ok (.if_icmp .lt 6, 3) := by decide +kernel
theorem dX5_type_12 : decode cX5_type 12 = .ok (.bipush (-3), 2) := by decide +kernel
theorem dX5_type_14 : decode cX5_type 14 = .ok (.ireturn, 1) := by decide +kernel
theorem dX5_type_15 : decode cX5_type 15 = .ok (.aload_n 0, 1) := by decide +kernel
theorem dX5_type_16 : decode cX5_type 16 = .ok (.getfield 36, 3) := by decide +kernel
theorem dX5_type_19 : decode cX5_type 19 = .ok (.iload_n 1, 1) := by decide +kernel
theorem dX5_type_20 : decode cX5_type 20 = .ok (.invokevirtual 169, 3) := by decide +kernel
theorem dX5_type_23 : decode cX5_type 23 = .ok (.ireturn, 1) := by decide +kernel
theorem dX5_clearText_0 : decode cX5_clearText 0 = .ok (.aload_n 0, 1) := by decide +kernel
theorem dX5_clearText_1 : decode cX5_clearText 1 = .ok (.getfield 36, 3) := by decide +kernel
theorem dX5_clearText_4 : decode cX5_clearText 4 = .ok (.getfield 166, 3) := by decide +kernel
theorem dX5_clearText_7 : decode cX5_clearText 7 = .ok (.istore_n 1, 1) := by decide +kernel
theorem dX5_clearText_8 : decode cX5_clearText 8 = .ok (.aload_n 0, 1) := by decide +kernel
theorem dX5_clearText_9 : decode cX5_clearText 9 = .ok (.getfield 36, 3) := by decide +kernel
theorem dX5_clearText_12 : decode cX5_clearText 12 = .ok (.iconst 0, 1) := by decide +kernel
theorem dX5_clearText_13 : decode cX5_clearText 13 = .ok (.putfield 166, 3) := by decide +kernel
theorem dX5_clearText_16 : decode cX5_clearText 16 = .ok (.iload_n 1, 1) := by decide +kernel
theorem dX5_clearText_17 : decode cX5_clearText 17 = .ok (.ireturn, 1) := by decide +kernel
theorem dX5_undo_0 : decode cX5_undo 0 = .ok (.aload_n 0, 1) := by decide +kernel
theorem dX5_undo_1 : decode cX5_undo 1 = .ok (.getfield 29, 3) := by decide +kernel
theorem dX5_undo_4 : decode cX5_undo 4 = .ok (.getfield 173, 3) := by decide +kernel
theorem dX5_undo_7 : decode cX5_undo 7 = .ok (.ifCond .ne 6, 3) := by decide +kernel
theorem dX5_undo_10 : decode cX5_undo 10 = .ok (.bipush (-5), 2) := by decide +kernel
theorem dX5_undo_12 : decode cX5_undo 12 = .ok (.ireturn, 1) := by decide +kernel
theorem dX5_undo_13 : decode cX5_undo 13 = .ok (.aload_n 0, 1) := by decide +kernel
theorem dX5_undo_14 : decode cX5_undo 14 = .ok (.getfield 29, 3) := by decide +kernel
theorem dX5_undo_17 : decode cX5_undo 17 = .ok (.aload_n 0, 1) := by decide +kernel
theorem dX5_undo_18 : decode cX5_undo 18 = .ok (.getfield 12, 3) := by decide +kernel
theorem dX5_undo_21 : decode cX5_undo 21 = .ok (.invokevirtual 176, 3) := by decide +kernel
theorem dX5_undo_24 : decode cX5_undo 24 = .ok (.aload_n 0, 1) := by decide +kernel
theorem dX5_undo_25 : decode cX5_undo 25 = .ok (.getfield 43, 3) := by decide +kernel
theorem dX5_undo_28 : decode cX5_undo 28 = .ok (.iconst 0, 1) := by decide +kernel
theorem dX5_undo_29 : decode cX5_undo 29 = .ok (.putfield 179, 3) := by decide +kernel
theorem dX5_undo_32 : decode cX5_undo 32 = .ok (.aload_n 0, 1) := by decide +kernel
theorem dX5_undo_33 : decode cX5_undo 33 = .ok (.getfield 29, 3) := by decide +kernel
theorem dX5_undo_36 : decode cX5_undo 36 = .ok (.getfield 173, 3) := by decide +kernel
theorem dX5_undo_39 : decode cX5_undo 39 = .ok (.ireturn, 1) := by decide +kernel
theorem dX5_keep_0 : decode cX5_keep 0 = .ok (.aload_n 0, 1) := by decide +kernel
theorem dX5_keep_1 : decode cX5_keep 1 = .ok (.getfield 19, 3) := by decide +kernel
theorem dX5_keep_4 : decode cX5_keep 4 = .ok (.aload_n 0, 1) := by decide +kernel
theorem dX5_keep_5 : decode cX5_keep 5 = .ok (.getfield 12, 3) := by decide +kernel
theorem dX5_keep_8 : decode cX5_keep 8 = .ok (.invokevirtual 98, 3) := by decide +kernel
theorem dX5_keep_11 : decode cX5_keep 11 = .ok (.aload_n 0, 1) := by decide +kernel
theorem dX5_keep_12 : decode cX5_keep 12 = .ok (.iconst 1, 1) := by decide +kernel
theorem dX5_keep_13 : decode cX5_keep 13 = .ok (.putfield 22, 3) := by decide +kernel
theorem dX5_keep_16 : decode cX5_keep 16 = .ok (.aload_n 0, 1) := by decide +kernel
theorem dX5_keep_17 : decode cX5_keep 17 = .ok (.getfield 12, 3) := by decide +kernel
theorem dX5_keep_20 : decode cX5_keep 20 = .ok (.getfield 54, 3) := by decide +kernel
theorem dX5_keep_23 : decode cX5_keep 23 = .ok (.ireturn, 1) := by decide +kernel
theorem dX5_restore_0 : decode cX5_restore 0 = .ok (.aload_n 0, 1) := by decide +kernel
theorem dX5_restore_1 : decode cX5_restore 1 = .ok (.getfield 22, 3) := by decide +kernel
theorem dX5_restore_4 : decode cX5_restore 4 = .ok (.ifCond .ne 6, 3) := by decide +kernel
theorem dX5_restore_7 : decode cX5_restore 7 = .ok (.bipush (-5), 2) := by decide +kernel
theorem dX5_restore_9 : decode cX5_restore 9 = .ok (.ireturn, 1) := by decide +kernel
theorem dX5_restore_10 : decode cX5_restore 10 = .ok (.aload_n 0, 1) := by decide +kernel
theorem dX5_restore_11 : decode cX5_restore 11 = .ok (.invokevirtual 58, 3) := by decide +kernel
theorem dX5_restore_14 : decode cX5_restore 14 = .ok (.aload_n 0, 1) := by decide +kernel
theorem dX5_restore_15 : decode cX5_restore 15 = .ok (.getfield 12, 3) := by decide +kernel
theorem dX5_restore_18 : decode cX5_restore 18 = .ok (.aload_n 0, 1) := by decide +kernel
theorem dX5_restore_19 : decode cX5_restore 19 = .ok (.getfield 19, 3) := by decide +kernel
theorem dX5_restore_22 : decode cX5_restore 22 = .ok (.invokevirtual 98, 3) := by decide +kernel
theorem dX5_restore_25 : decode cX5_restore 25 = .ok (.aload_n 0, 1) := by decide +kernel
theorem dX5_restore_26 : decode cX5_restore 26 = .ok (.getfield 12, 3) := by decide +kernel
theorem dX5_restore_29 : decode cX5_restore 29 = .ok (.getfield 54, 3) := by decide +kernel
theorem dX5_restore_32 : decode cX5_restore 32 = .ok (.ireturn, 1) := by decide +kernel
theorem dX5_page_0 : decode cX5_page 0 = .ok (.aload_n 0, 1) := by decide +kernel
theorem dX5_page_1 : decode cX5_page 1 = .ok (.getfield 12, 3) := by decide +kernel
theorem dX5_page_4 : decode cX5_page 4 = .ok (.iload_n 1, 1) := by decide +kernel
theorem dX5_page_5 : decode cX5_page 5 = .ok (.invokevirtual 65, 3) := by decide +kernel
theorem dX5_page_8 : decode cX5_page 8 = .ok (.ifCond .ne 5, 3) := by decide +kernel
theorem dX5_page_11 : decode cX5_page 11 = .ok (.iconst (-1), 1) := by decide +kernel
theorem dX5_page_12 : decode cX5_page 12 = .ok (.ireturn, 1) := by decide +kernel
theorem dX5_page_13 : decode cX5_page 13 = .ok (.iload_n 2, 1) := by decide +kernel
theorem dX5_page_14 : decode cX5_page 14 = .ok (.tableswitch 186 0 10 #[58, 70, 82, 94, 106, 115, 127, 139, 159, 168, 177], 58) := by decide +kernel
theorem dX5_page_72 : decode cX5_page 72 = .ok (.aload_n 0, 1) := by decide +kernel
theorem dX5_page_73 : decode cX5_page 73 = .ok (.getfield 12, 3) := by decide +kernel
theorem dX5_page_76 : decode cX5_page 76 = .ok (.getfield 82, 3) := by decide +kernel
theorem dX5_page_79 : decode cX5_page 79 = .ok (.iload_n 1, 1) := by decide +kernel
theorem dX5_page_80 : decode cX5_page 80 = .ok (.invokevirtual 72, 3) := by decide +kernel
theorem dX5_page_83 : decode cX5_page 83 = .ok (.ireturn, 1) := by decide +kernel
theorem dX5_page_84 : decode cX5_page 84 = .ok (.aload_n 0, 1) := by decide +kernel
theorem dX5_page_85 : decode cX5_page 85 = .ok (.getfield 12, 3) := by decide +kernel
theorem dX5_page_88 : decode cX5_page 88 = .ok (.getfield 182, 3) := by decide +kernel
theorem dX5_page_91 : decode cX5_page 91 = .ok (.iload_n 1, 1) := by decide +kernel
theorem dX5_page_92 : decode cX5_page 92 = .ok (.invokevirtual 72, 3) := by decide +kernel
theorem dX5_page_95 : decode cX5_page 95 = .ok (.ireturn, 1) := by decide +kernel
theorem dX5_page_96 : decode cX5_page 96 = .ok (.aload_n 0, 1) := by decide +kernel
theorem dX5_page_97 : decode cX5_page 97 = .ok (.getfield 12, 3) := by decide +kernel
theorem dX5_page_100 : decode cX5_page 100 = .ok (.getfield 185, 3) := by decide +kernel
theorem dX5_page_103 : decode cX5_page 103 = .ok (.iload_n 1, 1) := by decide +kernel
theorem dX5_page_104 : decode cX5_page 104 = .ok (.invokevirtual 72, 3) := by decide +kernel
theorem dX5_page_107 : decode cX5_page 107 = .ok (.ireturn, 1) := by decide +kernel
theorem dX5_page_108 : decode cX5_page 108 = .ok (.aload_n 0, 1) := by decide +kernel
theorem dX5_page_109 : decode cX5_page 109 = .ok (.getfield 12, 3) := by decide +kernel
theorem dX5_page_112 : decode cX5_page 112 = .ok (.iload_n 1, 1) := by decide +kernel
theorem dX5_page_113 : decode cX5_page 113 = .ok (.invokevirtual 188, 3) := by decide +kernel
theorem dX5_page_116 : decode cX5_page 116 = .ok (.invokestatic 192, 3) := by decide +kernel
theorem dX5_page_119 : decode cX5_page 119 = .ok (.ireturn, 1) := by decide +kernel
theorem dX5_page_120 : decode cX5_page 120 = .ok (.aload_n 0, 1) := by decide +kernel
theorem dX5_page_121 : decode cX5_page 121 = .ok (.getfield 12, 3) := by decide +kernel
theorem dX5_page_124 : decode cX5_page 124 = .ok (.iload_n 1, 1) := by decide +kernel
theorem dX5_page_125 : decode cX5_page 125 = .ok (.invokevirtual 196, 3) := by decide +kernel
theorem dX5_page_128 : decode cX5_page 128 = .ok (.ireturn, 1) := by decide +kernel
theorem dX5_page_129 : decode cX5_page 129 = .ok (.aload_n 0, 1) := by decide +kernel
theorem dX5_page_130 : decode cX5_page 130 = .ok (.invokevirtual 199, 3) := by decide +kernel
theorem dX5_page_133 : decode cX5_page 133 = .ok (.iload_n 1, 1) := by decide +kernel
theorem dX5_page_134 : decode cX5_page 134 = .ok (.invokevirtual 203, 3) := by decide +kernel
theorem dX5_page_137 : decode cX5_page 137 = .ok (.invokestatic 206, 3) := by decide +kernel
theorem dX5_page_140 : decode cX5_page 140 = .ok (.ireturn, 1) := by decide +kernel
theorem dX5_page_141 : decode cX5_page 141 = .ok (.aload_n 0, 1) := by decide +kernel
theorem dX5_page_142 : decode cX5_page 142 = .ok (.invokevirtual 199, 3) := by decide +kernel
theorem dX5_page_145 : decode cX5_page 145 = .ok (.iload_n 1, 1) := by decide +kernel
theorem dX5_page_146 : decode cX5_page 146 = .ok (.invokevirtual 210, 3) := by decide +kernel
theorem dX5_page_149 : decode cX5_page 149 = .ok (.invokestatic 206, 3) := by decide +kernel
theorem dX5_page_152 : decode cX5_page 152 = .ok (.ireturn, 1) := by decide +kernel
theorem dX5_page_153 : decode cX5_page 153 = .ok (.aload_n 0, 1) := by decide +kernel
theorem dX5_page_154 : decode cX5_page 154 = .ok (.invokevirtual 199, 3) := by decide +kernel
theorem dX5_page_157 : decode cX5_page 157 = .ok (.iload_n 1, 1) := by decide +kernel
theorem dX5_page_158 : decode cX5_page 158 = .ok (.invokevirtual 213, 3) := by decide +kernel
theorem dX5_page_161 : decode cX5_page 161 = .ok (.ifCond .le 7, 3) := by decide +kernel
theorem dX5_page_164 : decode cX5_page 164 = .ok (.iconst 1, 1) := by decide +kernel
theorem dX5_page_165 : decode cX5_page 165 = .ok (.goto 4, 3) := by decide +kernel
theorem dX5_page_168 : decode cX5_page 168 = .ok (.iconst 0, 1) := by decide +kernel
theorem dX5_page_169 : decode cX5_page 169 = .ok (.invokestatic 206, 3) := by decide +kernel
theorem dX5_page_172 : decode cX5_page 172 = .ok (.ireturn, 1) := by decide +kernel
theorem dX5_page_173 : decode cX5_page 173 = .ok (.aload_n 0, 1) := by decide +kernel
theorem dX5_page_174 : decode cX5_page 174 = .ok (.invokevirtual 199, 3) := by decide +kernel
theorem dX5_page_177 : decode cX5_page 177 = .ok (.iload_n 1, 1) := by decide +kernel
theorem dX5_page_178 : decode cX5_page 178 = .ok (.invokevirtual 216, 3) := by decide +kernel
theorem dX5_page_181 : decode cX5_page 181 = .ok (.ireturn, 1) := by decide +kernel
theorem dX5_page_182 : decode cX5_page 182 = .ok (.aload_n 0, 1) := by decide +kernel
theorem dX5_page_183 : decode cX5_page 183 = .ok (.invokevirtual 199, 3) := by decide +kernel
theorem dX5_page_186 : decode cX5_page 186 = .ok (.iload_n 1, 1) := by decide +kernel
theorem dX5_page_187 : decode cX5_page 187 = .ok (.invokevirtual 219, 3) := by decide +kernel
theorem dX5_page_190 : decode cX5_page 190 = .ok (.ireturn, 1) := by decide +kernel
theorem dX5_page_191 : decode cX5_page 191 = .ok (.aload_n 0, 1) := by decide +kernel
theorem dX5_page_192 : decode cX5_page 192 = .ok (.getfield 12, 3) := by decide +kernel
theorem dX5_page_195 : decode cX5_page 195 = .ok (.iload_n 1, 1) := by decide +kernel
theorem dX5_page_196 : decode cX5_page 196 = .ok (.invokevirtual 128, 3) := by decide +kernel
theorem dX5_page_199 : decode cX5_page 199 = .ok (.ireturn, 1) := by decide +kernel
theorem dX5_page_200 : decode cX5_page 200 = .ok (.bipush (-2), 2) := by decide +kernel
theorem dX5_page_202 : decode cX5_page 202 = .ok (.ireturn, 1) := by decide +kernel
theorem dX5_choice_0 : decode cX5_choice 0 = .ok (.aload_n 0, 1) := by decide +kernel
theorem dX5_choice_1 : decode cX5_choice 1 = .ok (.getfield 12, 3) := by decide +kernel
theorem dX5_choice_4 : decode cX5_choice 4 = .ok (.iload_n 1, 1) := by decide +kernel
theorem dX5_choice_5 : decode cX5_choice 5 = .ok (.iload_n 2, 1) := by decide +kernel
theorem dX5_choice_6 : decode cX5_choice 6 = .ok (.invokevirtual 117, 3) := by decide +kernel
theorem dX5_choice_9 : decode cX5_choice 9 = .ok (.ifCond .ne 5, 3) := by decide +kernel
theorem dX5_choice_12 : decode cX5_choice 12 = .ok (.iconst (-1), 1) := by decide +kernel
theorem dX5_choice_13 : decode cX5_choice 13 = .ok (.ireturn, 1) := by decide +kernel
theorem dX5_choice_14 : decode cX5_choice 14 = .ok (.iload_n 1, 1) := by decide +kernel
theorem dX5_choice_15 : decode cX5_choice 15 = .ok (.iload_n 2, 1) := by decide +kernel
theorem dX5_choice_16 : decode cX5_choice 16 = .ok (.invokestatic 222, 3) := by decide +kernel
theorem dX5_choice_19 : decode cX5_choice 19 = .ok (.istore 4, 2) := by decide +kernel
theorem dX5_choice_21 : decode cX5_choice 21 = .ok (.iload_n 3, 1) := by decide +kernel
theorem dX5_choice_22 : decode cX5_choice 22 = .ok (.tableswitch 86 0 3 #[30, 43, 56, 69], 30) := by decide +kernel
theorem dX5_choice_52 : decode cX5_choice 52 = .ok (.aload_n 0, 1) := by decide +kernel
theorem dX5_choice_53 : decode cX5_choice 53 = .ok (.getfield 12, 3) := by decide +kernel
theorem dX5_choice_56 : decode cX5_choice 56 = .ok (.getfield 225, 3) := by decide +kernel
theorem dX5_choice_59 : decode cX5_choice 59 = .ok (.iload 4, 2) := by decide +kernel
theorem dX5_choice_61 : decode cX5_choice 61 = .ok (.invokevirtual 72, 3) := by decide +kernel
theorem dX5_choice_64 : decode cX5_choice 64 = .ok (.ireturn, 1) := by decide +kernel
theorem dX5_choice_65 : decode cX5_choice 65 = .ok (.aload_n 0, 1) := by decide +kernel
theorem dX5_choice_66 : decode cX5_choice 66 = .ok (.getfield 12, 3) := by decide +kernel
theorem dX5_choice_69 : decode cX5_choice 69 = .ok (.getfield 226, 3) := by decide +kernel
theorem dX5_choice_72 : decode cX5_choice 72 = .ok (.iload 4, 2) := by decide +kernel
theorem dX5_choice_74 : decode cX5_choice 74 = .ok (.invokevirtual 72, 3) := by decide +kernel
theorem dX5_choice_77 : decode cX5_choice 77 = .ok (.ireturn, 1) := by decide +kernel
theorem dX5_choice_78 : decode cX5_choice 78 = .ok (.aload_n 0, 1) := by decide +kernel
theorem dX5_choice_79 : decode cX5_choice 79 = .ok (.getfield 12, 3) := by decide +kernel
theorem dX5_choice_82 : decode cX5_choice 82 = .ok (.getfield 227, 3) := by decide +kernel
theorem dX5_choice_85 : decode cX5_choice 85 = .ok (.iload 4, 2) := by decide +kernel
theorem dX5_choice_87 : decode cX5_choice 87 = .ok (.invokevirtual 72, 3) := by decide +kernel
theorem dX5_choice_90 : decode cX5_choice 90 = .ok (.ireturn, 1) := by decide +kernel
theorem dX5_choice_91 : decode cX5_choice 91 = .ok (.aload_n 0, 1) := by decide +kernel
theorem dX5_choice_92 : decode cX5_choice 92 = .ok (.invokevirtual 199, 3) := by decide +kernel
theorem dX5_choice_95 : decode cX5_choice 95 = .ok (.aload_n 0, 1) := by decide +kernel
theorem dX5_choice_96 : decode cX5_choice 96 = .ok (.getfield 12, 3) := by decide +kernel
theorem dX5_choice_99 : decode cX5_choice 99 = .ok (.iload_n 1, 1) := by decide +kernel
theorem dX5_choice_100 : decode cX5_choice 100 = .ok (.iload_n 2, 1) := by decide +kernel
theorem dX5_choice_101 : decode cX5_choice 101 = .ok (.invokevirtual 228, 3) := by decide +kernel
theorem dX5_choice_104 : decode cX5_choice 104 = .ok (.invokestatic 206, 3) := by decide +kernel
theorem dX5_choice_107 : decode cX5_choice 107 = .ok (.ireturn, 1) := by decide +kernel
theorem dX5_choice_108 : decode cX5_choice 108 = .ok (.bipush (-2), 2) := by decide +kernel
theorem dX5_choice_110 : decode cX5_choice 110 = .ok (.ireturn, 1) := by decide +kernel
theorem dX5_reader_0 : decode cX5_reader 0 = .ok (.iload_n 1, 1) := by decide +kernel
theorem dX5_reader_1 : decode cX5_reader 1 = .ok (.invokestatic 131, 3) := by decide +kernel
theorem dX5_reader_4 : decode cX5_reader 4 = .ok (.ifCond .ne 5, 3) := by decide +kernel
theorem dX5_reader_7 : decode cX5_reader 7 = .ok (.iconst (-1), 1) := by decide +kernel
theorem dX5_reader_8 : decode cX5_reader 8 = .ok (.ireturn, 1) := by decide +kernel
theorem dX5_reader_9 : decode cX5_reader 9 = .ok (.iload_n 2, 1) := by decide +kernel
theorem dX5_reader_10 : decode cX5_reader 10 = .ok (.ifCond .lt 8, 3) := by decide +kernel
theorem dX5_reader_13 : decode cX5_reader 13 = .ok (.iload_n 2, 1) := by decide +kernel
theorem dX5_reader_14 : decode cX5_reader 14 = .ok (.iconst 3, 1) := by decide +kernel
theorem dX5_reader_15 : decode cX5_reader 15 = .ok (.if_icmp .le 6, 3) := by decide +kernel
theorem dX5_reader_18 : decode cX5_reader 18 = .ok (.bipush (-2), 2) := by decide +kernel
theorem dX5_reader_20 : decode cX5_reader 20 = .ok (.ireturn, 1) := by decide +kernel
theorem dX5_reader_21 : decode cX5_reader 21 = .ok (.aload_n 0, 1) := by decide +kernel
theorem dX5_reader_22 : decode cX5_reader 22 = .ok (.getfield 12, 3) := by decide +kernel
theorem dX5_reader_25 : decode cX5_reader 25 = .ok (.getfield 151, 3) := by decide +kernel
theorem dX5_reader_28 : decode cX5_reader 28 = .ok (.iload_n 1, 1) := by decide +kernel
theorem dX5_reader_29 : decode cX5_reader 29 = .ok (.invokevirtual 72, 3) := by decide +kernel
theorem dX5_reader_32 : decode cX5_reader 32 = .ok (.istore_n 3, 1) := by decide +kernel
theorem dX5_reader_33 : decode cX5_reader 33 = .ok (.iload_n 3, 1) := by decide +kernel
theorem dX5_reader_34 : decode cX5_reader 34 = .ok (.iconst (-1), 1) := by decide +kernel
theorem dX5_reader_35 : decode cX5_reader 35 = .ok (.if_icmp .ne 6, 3) := by decide +kernel
theorem dX5_reader_38 : decode cX5_reader 38 = .ok (.bipush (-5), 2) := by decide +kernel
theorem dX5_reader_40 : decode cX5_reader 40 = .ok (.ireturn, 1) := by decide +kernel
theorem dX5_reader_41 : decode cX5_reader 41 = .ok (.iload_n 2, 1) := by decide +kernel
theorem dX5_reader_42 : decode cX5_reader 42 = .ok (.tableswitch 45 0 2 #[26, 31, 36], 26) := by decide +kernel
theorem dX5_reader_68 : decode cX5_reader 68 = .ok (.iload_n 3, 1) := by decide +kernel
theorem dX5_reader_69 : decode cX5_reader 69 = .ok (.invokestatic 160, 3) := by decide +kernel
theorem dX5_reader_72 : decode cX5_reader 72 = .ok (.ireturn, 1) := by decide +kernel
theorem dX5_reader_73 : decode cX5_reader 73 = .ok (.iload_n 3, 1) := by decide +kernel
theorem dX5_reader_74 : decode cX5_reader 74 = .ok (.invokestatic 142, 3) := by decide +kernel
theorem dX5_reader_77 : decode cX5_reader 77 = .ok (.ireturn, 1) := by decide +kernel
theorem dX5_reader_78 : decode cX5_reader 78 = .ok (.aload_n 0, 1) := by decide +kernel
theorem dX5_reader_79 : decode cX5_reader 79 = .ok (.getfield 12, 3) := by decide +kernel
theorem dX5_reader_82 : decode cX5_reader 82 = .ok (.iload_n 3, 1) := by decide +kernel
theorem dX5_reader_83 : decode cX5_reader 83 = .ok (.invokevirtual 232, 3) := by decide +kernel
theorem dX5_reader_86 : decode cX5_reader 86 = .ok (.ireturn, 1) := by decide +kernel
theorem dX5_reader_87 : decode cX5_reader 87 = .ok (.aload_n 0, 1) := by decide +kernel
theorem dX5_reader_88 : decode cX5_reader 88 = .ok (.getfield 12, 3) := by decide +kernel
theorem dX5_reader_91 : decode cX5_reader 91 = .ok (.getfield 157, 3) := by decide +kernel
theorem dX5_reader_94 : decode cX5_reader 94 = .ok (.iload_n 1, 1) := by decide +kernel
theorem dX5_reader_95 : decode cX5_reader 95 = .ok (.invokevirtual 72, 3) := by decide +kernel
theorem dX5_reader_98 : decode cX5_reader 98 = .ok (.ireturn, 1) := by decide +kernel
theorem dX5_why_0 : decode cX5_why 0 = .ok (.iload_n 1, 1) := by decide +kernel
theorem dX5_why_1 : decode cX5_why 1 = .ok (.invokestatic 131, 3) := by decide +kernel
theorem dX5_why_4 : decode cX5_why 4 = .ok (.ifCond .ne 5, 3) := by decide +kernel
theorem dX5_why_7 : decode cX5_why 7 = .ok (.iconst (-1), 1) := by decide +kernel
theorem dX5_why_8 : decode cX5_why 8 = .ok (.ireturn, 1) := by decide +kernel
theorem dX5_why_9 : decode cX5_why 9 = .ok (.iload_n 2, 1) := by decide +kernel
theorem dX5_why_10 : decode cX5_why 10 = .ok (.invokestatic 145, 3) := by decide +kernel
theorem dX5_why_13 : decode cX5_why 13 = .ok (.ifCond .ne 6, 3) := by decide +kernel
theorem dX5_why_16 : decode cX5_why 16 = .ok (.bipush (-2), 2) := by decide +kernel
theorem dX5_why_18 : decode cX5_why 18 = .ok (.ireturn, 1) := by decide +kernel
theorem dX5_why_19 : decode cX5_why 19 = .ok (.aload_n 0, 1) := by decide +kernel
theorem dX5_why_20 : decode cX5_why 20 = .ok (.getfield 12, 3) := by decide +kernel
theorem dX5_why_23 : decode cX5_why 23 = .ok (.iload_n 1, 1) := by decide +kernel
theorem dX5_why_24 : decode cX5_why 24 = .ok (.iload_n 2, 1) := by decide +kernel
theorem dX5_why_25 : decode cX5_why 25 = .ok (.invokevirtual 148, 3) := by decide +kernel
theorem dX5_why_28 : decode cX5_why 28 = .ok (.ireturn, 1) := by decide +kernel
theorem dX5_way_0 : decode cX5_way 0 = .ok (.iload_n 1, 1) := by decide +kernel
theorem dX5_way_1 : decode cX5_way 1 = .ok (.ifCond .lt 12, 3) := by decide +kernel
theorem dX5_way_4 : decode cX5_way 4 = .ok (.iload_n 2, 1) := by decide +kernel
theorem dX5_way_5 : decode cX5_way 5 = .ok (.ifCond .lt 8, 3) := by decide +kernel
theorem dX5_way_8 : decode cX5_way 8 = .ok (.iload_n 2, 1) := by decide +kernel
theorem dX5_way_9 : decode cX5_way 9 = .ok (.iconst 2, 1) := by decide +kernel
theorem dX5_way_10 : decode cX5_way 10 = .ok (.if_icmp .le 6, 3) := by decide +kernel
theorem dX5_way_13 : decode cX5_way 13 = .ok (.bipush (-2), 2) := by decide +kernel
theorem dX5_way_15 : decode cX5_way 15 = .ok (.ireturn, 1) := by decide +kernel
theorem dX5_way_16 : decode cX5_way 16 = .ok (.aload_n 0, 1) := by decide +kernel
theorem dX5_way_17 : decode cX5_way 17 = .ok (.invokevirtual 199, 3) := by decide +kernel
theorem dX5_way_20 : decode cX5_way 20 = .ok (.astore_n 3, 1) := by decide +kernel
theorem dX5_way_21 : decode cX5_way 21 = .ok (.iload_n 1, 1) := by decide +kernel
theorem dX5_way_22 : decode cX5_way 22 = .ok (.aload_n 3, 1) := by decide +kernel
theorem dX5_way_23 : decode cX5_way 23 = .ok (.getfield 235, 3) := by decide +kernel
theorem dX5_way_26 : decode cX5_way 26 = .ok (.if_icmp .le 6, 3) := by decide +kernel
theorem dX5_way_29 : decode cX5_way 29 = .ok (.bipush (-5), 2) := by decide +kernel
theorem dX5_way_31 : decode cX5_way 31 = .ok (.ireturn, 1) := by decide +kernel
theorem dX5_way_32 : decode cX5_way 32 = .ok (.iload_n 2, 1) := by decide +kernel
theorem dX5_way_33 : decode cX5_way 33 = .ok (.lookupswitch 51 #[(0, 27), (1, 39)], 27) := by decide +kernel
theorem dX5_way_60 : decode cX5_way 60 = .ok (.aload_n 3, 1) := by decide +kernel
theorem dX5_way_61 : decode cX5_way 61 = .ok (.getfield 238, 3) := by decide +kernel
theorem dX5_way_64 : decode cX5_way 64 = .ok (.iload_n 1, 1) := by decide +kernel
theorem dX5_way_65 : decode cX5_way 65 = .ok (.invokevirtual 72, 3) := by decide +kernel
theorem dX5_way_68 : decode cX5_way 68 = .ok (.invokestatic 160, 3) := by decide +kernel
theorem dX5_way_71 : decode cX5_way 71 = .ok (.ireturn, 1) := by decide +kernel
theorem dX5_way_72 : decode cX5_way 72 = .ok (.aload_n 3, 1) := by decide +kernel
theorem dX5_way_73 : decode cX5_way 73 = .ok (.getfield 238, 3) := by decide +kernel
theorem dX5_way_76 : decode cX5_way 76 = .ok (.iload_n 1, 1) := by decide +kernel
theorem dX5_way_77 : decode cX5_way 77 = .ok (.invokevirtual 72, 3) := by decide +kernel
theorem dX5_way_80 : decode cX5_way 80 = .ok (.invokestatic 142, 3) := by decide +kernel
theorem dX5_way_83 : decode cX5_way 83 = .ok (.ireturn, 1) := by decide +kernel
theorem dX5_way_84 : decode cX5_way 84 = .ok (.aload_n 3, 1) := by decide +kernel
theorem dX5_way_85 : decode cX5_way 85 = .ok (.iload_n 1, 1) := by decide +kernel
theorem dX5_way_86 : decode cX5_way 86 = .ok (.invokevirtual 241, 3) := by decide +kernel
theorem dX5_way_89 : decode cX5_way 89 = .ok (.ireturn, 1) := by decide +kernel
theorem dX5_wayMood_0 : decode cX5_wayMood 0 = .ok (.aload_n 0, 1) := by decide +kernel
theorem dX5_wayMood_1 : decode cX5_wayMood 1 = .ok (.invokevirtual 199, 3) := by decide +kernel
theorem dX5_wayMood_4 : decode cX5_wayMood 4 = .ok (.astore_n 1, 1) := by decide +kernel
theorem dX5_wayMood_5 : decode cX5_wayMood 5 = .ok (.aload_n 1, 1) := by decide +kernel
theorem dX5_wayMood_6 : decode cX5_wayMood 6 = .ok (.getfield 235, 3) := by decide +kernel
theorem dX5_wayMood_9 : decode cX5_wayMood 9 = .ok (.ifCond .ge 6, 3) := by decide +kernel
theorem dX5_wayMood_12 : decode cX5_wayMood 12 = .ok (.bipush (-5), 2) := by decide +kernel
theorem dX5_wayMood_14 : decode cX5_wayMood 14 = .ok (.ireturn, 1) := by decide +kernel
theorem dX5_wayMood_15 : decode cX5_wayMood 15 = .ok (.fconst 0, 1) := by decide +kernel
theorem dX5_wayMood_16 : decode cX5_wayMood 16 = .ok (.fstore_n 2, 1) := by decide +kernel
theorem dX5_wayMood_17 : decode cX5_wayMood 17 = .ok (.iconst 0, 1) := by decide +kernel
theorem dX5_wayMood_18 : decode cX5_wayMood 18 = .ok (.istore_n 3, 1) := by decide +kernel
theorem dX5_wayMood_19 : decode cX5_wayMood 19 = .ok (.iload_n 3, 1) := by decide +kernel
theorem dX5_wayMood_20 : decode cX5_wayMood 20 = .ok (.aload_n 1, 1) := by decide +kernel
theorem dX5_wayMood_21 : decode cX5_wayMood 21 = .ok (.getfield 235, 3) := by decide +kernel
theorem dX5_wayMood_24 : decode cX5_wayMood 24 = .ok (.if_icmp .gt 37, 3) := by decide +kernel
theorem dX5_wayMood_27 : decode cX5_wayMood 27 = .ok (.iload_n 3, 1) := by decide +kernel
theorem dX5_wayMood_28 : decode cX5_wayMood 28 = .ok (.sipush 1024, 3) := by decide +kernel
theorem dX5_wayMood_31 : decode cX5_wayMood 31 = .ok (.if_icmp .ge 30, 3) := by decide +kernel
theorem dX5_wayMood_34 : decode cX5_wayMood 34 = .ok (.fload_n 2, 1) := by decide +kernel
theorem dX5_wayMood_35 : decode cX5_wayMood 35 = .ok (.aload_n 0, 1) := by decide +kernel
theorem dX5_wayMood_36 : decode cX5_wayMood 36 = .ok (.getfield 12, 3) := by decide +kernel
theorem dX5_wayMood_39 : decode cX5_wayMood 39 = .ok (.aload_n 1, 1) := by decide +kernel
theorem dX5_wayMood_40 : decode cX5_wayMood 40 = .ok (.getfield 238, 3) := by decide +kernel
theorem dX5_wayMood_43 : decode cX5_wayMood 43 = .ok (.iload_n 3, 1) := by decide +kernel
theorem dX5_wayMood_44 : decode cX5_wayMood 44 = .ok (.invokevirtual 72, 3) := by decide +kernel
theorem dX5_wayMood_47 : decode cX5_wayMood 47 = .ok (.invokestatic 160, 3) := by decide +kernel
theorem dX5_wayMood_50 : decode cX5_wayMood 50 = .ok (.invokevirtual 188, 3) := by decide +kernel
theorem dX5_wayMood_53 : decode cX5_wayMood 53 = .ok (.fadd, 1) := by decide +kernel
theorem dX5_wayMood_54 : decode cX5_wayMood 54 = .ok (.fstore_n 2, 1) := by decide +kernel
theorem dX5_wayMood_55 : decode cX5_wayMood 55 = .ok (.iinc 3 1, 3) := by decide +kernel
theorem dX5_wayMood_58 : decode cX5_wayMood 58 = .ok (.goto (-39), 3) := by decide +kernel
theorem dX5_wayMood_61 : decode cX5_wayMood 61 = .ok (.fload_n 2, 1) := by decide +kernel
theorem dX5_wayMood_62 : decode cX5_wayMood 62 = .ok (.invokestatic 192, 3) := by decide +kernel
theorem dX5_wayMood_65 : decode cX5_wayMood 65 = .ok (.ireturn, 1) := by decide +kernel
theorem dX5_count_0 : decode cX5_count 0 = .ok (.iload_n 1, 1) := by decide +kernel
theorem dX5_count_1 : decode cX5_count 1 = .ok (.tableswitch 200 0 11 #[63, 71, 79, 87, 95, 103, 111, 126, 141, 164, 184, 192], 63) := by decide +kernel
theorem dX5_count_64 : decode cX5_count 64 = .ok (.aload_n 0, 1) := by decide +kernel
theorem dX5_count_65 : decode cX5_count 65 = .ok (.getfield 12, 3) := by decide +kernel
theorem dX5_count_68 : decode cX5_count 68 = .ok (.getfield 54, 3) := by decide +kernel
theorem dX5_count_71 : decode cX5_count 71 = .ok (.ireturn, 1) := by decide +kernel
theorem dX5_count_72 : decode cX5_count 72 = .ok (.aload_n 0, 1) := by decide +kernel
theorem dX5_count_73 : decode cX5_count 73 = .ok (.getfield 12, 3) := by decide +kernel
theorem dX5_count_76 : decode cX5_count 76 = .ok (.invokevirtual 244, 3) := by decide +kernel
theorem dX5_count_79 : decode cX5_count 79 = .ok (.ireturn, 1) := by decide +kernel
theorem dX5_count_80 : decode cX5_count 80 = .ok (.aload_n 0, 1) := by decide +kernel
theorem dX5_count_81 : decode cX5_count 81 = .ok (.invokevirtual 199, 3) := by decide +kernel
theorem dX5_count_84 : decode cX5_count 84 = .ok (.invokevirtual 247, 3) := by decide +kernel
theorem dX5_count_87 : decode cX5_count 87 = .ok (.ireturn, 1) := by decide +kernel
theorem dX5_count_88 : decode cX5_count 88 = .ok (.aload_n 0, 1) := by decide +kernel
theorem dX5_count_89 : decode cX5_count 89 = .ok (.invokevirtual 199, 3) := by decide +kernel
theorem dX5_count_92 : decode cX5_count 92 = .ok (.invokevirtual 250, 3) := by decide +kernel
theorem dX5_count_95 : decode cX5_count 95 = .ok (.ireturn, 1) := by decide +kernel
theorem dX5_count_96 : decode cX5_count 96 = .ok (.aload_n 0, 1) := by decide +kernel
theorem dX5_count_97 : decode cX5_count 97 = .ok (.invokevirtual 199, 3) := by decide +kernel
theorem dX5_count_100 : decode cX5_count 100 = .ok (.invokevirtual 253, 3) := by decide +kernel
theorem dX5_count_103 : decode cX5_count 103 = .ok (.ireturn, 1) := by decide +kernel
theorem dX5_count_104 : decode cX5_count 104 = .ok (.aload_n 0, 1) := by decide +kernel
theorem dX5_count_105 : decode cX5_count 105 = .ok (.invokevirtual 199, 3) := by decide +kernel
theorem dX5_count_108 : decode cX5_count 108 = .ok (.getfield 256, 3) := by decide +kernel
theorem dX5_count_111 : decode cX5_count 111 = .ok (.ireturn, 1) := by decide +kernel
theorem dX5_count_112 : decode cX5_count 112 = .ok (.aload_n 0, 1) := by decide +kernel
theorem dX5_count_113 : decode cX5_count 113 = .ok (.invokevirtual 199, 3) := by decide +kernel
theorem dX5_count_116 : decode cX5_count 116 = .ok (.aload_n 0, 1) := by decide +kernel
theorem dX5_count_117 : decode cX5_count 117 = .ok (.invokevirtual 199, 3) := by decide +kernel
theorem dX5_count_120 : decode cX5_count 120 = .ok (.getfield 259, 3) := by decide +kernel
theorem dX5_count_123 : decode cX5_count 123 = .ok (.invokevirtual 262, 3) := by decide +kernel
theorem dX5_count_126 : decode cX5_count 126 = .ok (.ireturn, 1) := by decide +kernel
theorem dX5_count_127 : decode cX5_count 127 = .ok (.aload_n 0, 1) := by decide +kernel
theorem dX5_count_128 : decode cX5_count 128 = .ok (.invokevirtual 199, 3) := by decide +kernel
theorem dX5_count_131 : decode cX5_count 131 = .ok (.aload_n 0, 1) := by decide +kernel
theorem dX5_count_132 : decode cX5_count 132 = .ok (.invokevirtual 199, 3) := by decide +kernel
theorem dX5_count_135 : decode cX5_count 135 = .ok (.getfield 265, 3) := by decide +kernel
theorem dX5_count_138 : decode cX5_count 138 = .ok (.invokevirtual 262, 3) := by decide +kernel
theorem dX5_count_141 : decode cX5_count 141 = .ok (.ireturn, 1) := by decide +kernel
theorem dX5_count_142 : decode cX5_count 142 = .ok (.aload_n 0, 1) := by decide +kernel
theorem dX5_count_143 : decode cX5_count 143 = .ok (.invokevirtual 199, 3) := by decide +kernel
theorem dX5_count_146 : decode cX5_count 146 = .ok (.getfield 235, 3) := by decide +kernel
theorem dX5_count_149 : decode cX5_count 149 = .ok (.ifCond .ge 8, 3) := by decide +kernel
theorem dX5_count_152 : decode cX5_count 152 = .ok (.bipush (-5), 2) := by decide +kernel
theorem dX5_count_154 : decode cX5_count 154 = .ok (.goto 10, 3) := by decide +kernel
theorem dX5_count_157 : decode cX5_count 157 = .ok (.aload_n 0, 1) := by decide +kernel
theorem dX5_count_158 : decode cX5_count 158 = .ok (.invokevirtual 199, 3) := by decide +kernel
theorem dX5_count_161 : decode cX5_count 161 = .ok (.getfield 235, 3) := by decide +kernel
theorem dX5_count_164 : decode cX5_count 164 = .ok (.ireturn, 1) := by decide +kernel
theorem dX5_count_165 : decode cX5_count 165 = .ok (.aload_n 0, 1) := by decide +kernel
theorem dX5_count_166 : decode cX5_count 166 = .ok (.getfield 12, 3) := by decide +kernel
theorem dX5_count_169 : decode cX5_count 169 = .ok (.getfield 163, 3) := by decide +kernel
theorem dX5_count_172 : decode cX5_count 172 = .ok (.iconst (-1), 1) := by decide +kernel
theorem dX5_count_173 : decode cX5_count 173 = .ok (.if_icmp .eq 7, 3) := by decide +kernel
theorem dX5_count_176 : decode cX5_count 176 = .ok (.iconst 1, 1) := by decide +kernel
theorem dX5_count_177 : decode cX5_count 177 = .ok (.goto 4, 3) := by decide +kernel
theorem dX5_count_180 : decode cX5_count 180 = .ok (.iconst 0, 1) := by decide +kernel
theorem dX5_count_181 : decode cX5_count 181 = .ok (.invokestatic 206, 3) := by decide +kernel
theorem dX5_count_184 : decode cX5_count 184 = .ok (.ireturn, 1) := by decide +kernel
theorem dX5_count_185 : decode cX5_count 185 = .ok (.aload_n 0, 1) := by decide +kernel
theorem dX5_count_186 : decode cX5_count 186 = .ok (.getfield 29, 3) := by decide +kernel
theorem dX5_count_189 : decode cX5_count 189 = .ok (.getfield 173, 3) := by decide +kernel
theorem dX5_count_192 : decode cX5_count 192 = .ok (.ireturn, 1) := by decide +kernel
theorem dX5_count_193 : decode cX5_count 193 = .ok (.aload_n 0, 1) := by decide +kernel
theorem dX5_count_194 : decode cX5_count 194 = .ok (.getfield 36, 3) := by decide +kernel
theorem dX5_count_197 : decode cX5_count 197 = .ok (.getfield 166, 3) := by decide +kernel
theorem dX5_count_200 : decode cX5_count 200 = .ok (.ireturn, 1) := by decide +kernel
theorem dX5_count_201 : decode cX5_count 201 = .ok (.bipush (-2), 2) := by decide +kernel
theorem dX5_count_203 : decode cX5_count 203 = .ok (.ireturn, 1) := by decide +kernel
theorem dX5_record_0 : decode cX5_record 0 = .ok (.aload_n 0, 1) := by decide +kernel
theorem dX5_record_1 : decode cX5_record 1 = .ok (.getfield 29, 3) := by decide +kernel
theorem dX5_record_4 : decode cX5_record 4 = .ok (.aload_n 0, 1) := by decide +kernel
theorem dX5_record_5 : decode cX5_record 5 = .ok (.getfield 12, 3) := by decide +kernel
theorem dX5_record_8 : decode cX5_record 8 = .ok (.invokevirtual 268, 3) := by decide +kernel
theorem dX5_record_11 : decode cX5_record 11 = .ok (.aload_n 0, 1) := by decide +kernel
theorem dX5_record_12 : decode cX5_record 12 = .ok (.getfield 43, 3) := by decide +kernel
theorem dX5_record_15 : decode cX5_record 15 = .ok (.iconst 0, 1) := by decide +kernel
theorem dX5_record_16 : decode cX5_record 16 = .ok (.putfield 179, 3) := by decide +kernel
theorem dX5_record_19 : decode cX5_record 19 = .ok (.return_, 1) := by decide +kernel
theorem dX5_surveyed_0 : decode cX5_surveyed 0 = .ok (.aload_n 0, 1) := by decide +kernel
theorem dX5_surveyed_1 : decode cX5_surveyed 1 = .ok (.getfield 43, 3) := by decide +kernel
theorem dX5_surveyed_4 : decode cX5_surveyed 4 = .ok (.getfield 179, 3) := by decide +kernel
theorem dX5_surveyed_7 : decode cX5_surveyed 7 = .ok (.ifCond .ne 14, 3) := by decide +kernel
theorem dX5_surveyed_10 : decode cX5_surveyed 10 = .ok (.aload_n 0, 1) := by decide +kernel
theorem dX5_surveyed_11 : decode cX5_surveyed 11 = .ok (.getfield 43, 3) := by decide +kernel
theorem dX5_surveyed_14 : decode cX5_surveyed 14 = .ok (.aload_n 0, 1) := by decide +kernel
theorem dX5_surveyed_15 : decode cX5_surveyed 15 = .ok (.getfield 12, 3) := by decide +kernel
theorem dX5_surveyed_18 : decode cX5_surveyed 18 = .ok (.invokevirtual 271, 3) := by decide +kernel
theorem dX5_surveyed_21 : decode cX5_surveyed 21 = .ok (.aload_n 0, 1) := by decide +kernel
theorem dX5_surveyed_22 : decode cX5_surveyed 22 = .ok (.getfield 43, 3) := by decide +kernel
theorem dX5_surveyed_25 : decode cX5_surveyed 25 = .ok (.areturn, 1) := by decide +kernel
theorem dX5_isMood_0 : decode cX5_isMood 0 = .ok (.iload_n 0, 1) := by decide +kernel
theorem dX5_isMood_1 : decode cX5_isMood 1 = .ok (.bipush (-99), 2) := by decide +kernel
theorem dX5_isMood_3 : decode cX5_isMood 3 = .ok (.if_icmp .lt 13, 3) := by decide +kernel
theorem dX5_isMood_6 : decode cX5_isMood 6 = .ok (.iload_n 0, 1) := by decide +kernel
theorem dX5_isMood_7 : decode cX5_isMood 7 = .ok (.bipush 99, 2) := by decide +kernel
theorem dX5_isMood_9 : decode cX5_isMood 9 = .ok (.if_icmp .gt 7, 3) := by decide +kernel
theorem dX5_isMood_12 : decode cX5_isMood 12 = .ok (.iconst 1, 1) := by decide +kernel
theorem dX5_isMood_13 : decode cX5_isMood 13 = .ok (.goto 4, 3) := by decide +kernel
theorem dX5_isMood_16 : decode cX5_isMood 16 = .ok (.iconst 0, 1) := by decide +kernel
theorem dX5_isMood_17 : decode cX5_isMood 17 = .ok (.ireturn, 1) := by decide +kernel
theorem dX5_isFlagSet_0 : decode cX5_isFlagSet 0 = .ok (.iload_n 0, 1) := by decide +kernel
theorem dX5_isFlagSet_1 : decode cX5_isFlagSet 1 = .ok (.ifCond .lt 13, 3) := by decide +kernel
theorem dX5_isFlagSet_4 : decode cX5_isFlagSet 4 = .ok (.iload_n 0, 1) := by decide +kernel
theorem dX5_isFlagSet_5 : decode cX5_isFlagSet 5 = .ok (.bipush 32, 2) := by decide +kernel
theorem dX5_isFlagSet_7 : decode cX5_isFlagSet 7 = .ok (.if_icmp .ge 7, 3) := by decide +kernel
theorem dX5_isFlagSet_10 : decode cX5_isFlagSet 10 = .ok (.iconst 1, 1) := by decide +kernel
theorem dX5_isFlagSet_11 : decode cX5_isFlagSet 11 = .ok (.goto 4, 3) := by decide +kernel
theorem dX5_isFlagSet_14 : decode cX5_isFlagSet 14 = .ok (.iconst 0, 1) := by decide +kernel
theorem dX5_isFlagSet_15 : decode cX5_isFlagSet 15 = .ok (.ireturn, 1) := by decide +kernel
theorem dX5_isReader_0 : decode cX5_isReader 0 = .ok (.iload_n 0, 1) := by decide +kernel
theorem dX5_isReader_1 : decode cX5_isReader 1 = .ok (.ifCond .lt 12, 3) := by decide +kernel
theorem dX5_isReader_4 : decode cX5_isReader 4 = .ok (.iload_n 0, 1) := by decide +kernel
theorem dX5_isReader_5 : decode cX5_isReader 5 = .ok (.iconst 2, 1) := by decide +kernel
theorem dX5_isReader_6 : decode cX5_isReader 6 = .ok (.if_icmp .ge 7, 3) := by decide +kernel
theorem dX5_isReader_9 : decode cX5_isReader 9 = .ok (.iconst 1, 1) := by decide +kernel
theorem dX5_isReader_10 : decode cX5_isReader 10 = .ok (.goto 4, 3) := by decide +kernel
theorem dX5_isReader_13 : decode cX5_isReader 13 = .ok (.iconst 0, 1) := by decide +kernel
theorem dX5_isReader_14 : decode cX5_isReader 14 = .ok (.ireturn, 1) := by decide +kernel
theorem dX5_isChoiceNumber_0 : decode cX5_isChoiceNumber 0 = .ok (.iload_n 0, 1) := by decide +kernel
theorem dX5_isChoiceNumber_1 : decode cX5_isChoiceNumber 1 = .ok (.ifCond .lt 12, 3) := by decide +kernel
theorem dX5_isChoiceNumber_4 : decode cX5_isChoiceNumber 4 = .ok (.iload_n 0, 1) := by decide +kernel
theorem dX5_isChoiceNumber_5 : decode cX5_isChoiceNumber 5 = .ok (.iconst 3, 1) := by decide +kernel
theorem dX5_isChoiceNumber_6 : decode cX5_isChoiceNumber 6 = .ok (.if_icmp .ge 7, 3) := by decide +kernel
theorem dX5_isChoiceNumber_9 : decode cX5_isChoiceNumber 9 = .ok (.iconst 1, 1) := by decide +kernel
theorem dX5_isChoiceNumber_10 : decode cX5_isChoiceNumber 10 = .ok (.goto 4, 3) := by decide +kernel
theorem dX5_isChoiceNumber_13 : decode cX5_isChoiceNumber 13 = .ok (.iconst 0, 1) := by decide +kernel
theorem dX5_isChoiceNumber_14 : decode cX5_isChoiceNumber 14 = .ok (.ireturn, 1) := by decide +kernel
theorem dX5_oneIf_0 : decode cX5_oneIf 0 = .ok (.iload_n 0, 1) := by decide +kernel
theorem dX5_oneIf_1 : decode cX5_oneIf 1 = .ok (.ifCond .eq 7, 3) := by decide +kernel
theorem dX5_oneIf_4 : decode cX5_oneIf 4 = .ok (.iconst 1, 1) := by decide +kernel
theorem dX5_oneIf_5 : decode cX5_oneIf 5 = .ok (.goto 4, 3) := by decide +kernel
theorem dX5_oneIf_8 : decode cX5_oneIf 8 = .ok (.iconst 0, 1) := by decide +kernel
theorem dX5_oneIf_9 : decode cX5_oneIf 9 = .ok (.ireturn, 1) := by decide +kernel
theorem dX5_slotOf_0 : decode cX5_slotOf 0 = .ok (.iload_n 0, 1) := by decide +kernel
theorem dX5_slotOf_1 : decode cX5_slotOf 1 = .ok (.iconst 3, 1) := by decide +kernel
theorem dX5_slotOf_2 : decode cX5_slotOf 2 = .ok (.imul, 1) := by decide +kernel
theorem dX5_slotOf_3 : decode cX5_slotOf 3 = .ok (.iload_n 1, 1) := by decide +kernel
theorem dX5_slotOf_4 : decode cX5_slotOf 4 = .ok (.iadd, 1) := by decide +kernel
theorem dX5_slotOf_5 : decode cX5_slotOf 5 = .ok (.ireturn, 1) := by decide +kernel
theorem dX5_placeOf_0 : decode cX5_placeOf 0 = .ok (.iload_n 0, 1) := by decide +kernel
theorem dX5_placeOf_1 : decode cX5_placeOf 1 = .ok (.bipush 32, 2) := by decide +kernel
theorem dX5_placeOf_3 : decode cX5_placeOf 3 = .ok (.imul, 1) := by decide +kernel
theorem dX5_placeOf_4 : decode cX5_placeOf 4 = .ok (.iload_n 1, 1) := by decide +kernel
theorem dX5_placeOf_5 : decode cX5_placeOf 5 = .ok (.iadd, 1) := by decide +kernel
theorem dX5_placeOf_6 : decode cX5_placeOf 6 = .ok (.ireturn, 1) := by decide +kernel
theorem dX5_pageAt_0 : decode cX5_pageAt 0 = .ok (.iload_n 0, 1) := by decide +kernel
theorem dX5_pageAt_1 : decode cX5_pageAt 1 = .ok (.iconst 5, 1) := by decide +kernel
theorem dX5_pageAt_2 : decode cX5_pageAt 2 = .ok (.ishr, 1) := by decide +kernel
theorem dX5_pageAt_3 : decode cX5_pageAt 3 = .ok (.ireturn, 1) := by decide +kernel
theorem dX5_flagsAt_0 : decode cX5_flagsAt 0 = .ok (.iload_n 0, 1) := by decide +kernel
theorem dX5_flagsAt_1 : decode cX5_flagsAt 1 = .ok (.bipush 31, 2) := by decide +kernel
theorem dX5_flagsAt_3 : decode cX5_flagsAt 3 = .ok (.iand, 1) := by decide +kernel
theorem dX5_flagsAt_4 : decode cX5_flagsAt 4 = .ok (.ireturn, 1) := by decide +kernel
theorem dX5_bitsOf_0 : decode cX5_bitsOf 0 = .ok (.fload_n 0, 1) := by decide +kernel
theorem dX5_bitsOf_1 : decode cX5_bitsOf 1 = .ok (.fconst 0, 1) := by decide +kernel
theorem dX5_bitsOf_2 : decode cX5_bitsOf 2 = .ok (.fcmp .l, 1) := by decide +kernel
theorem dX5_bitsOf_3 : decode cX5_bitsOf 3 = .ok (.ifCond .ne 5, 3) := by decide +kernel
theorem dX5_bitsOf_6 : decode cX5_bitsOf 6 = .ok (.iconst 0, 1) := by decide +kernel
theorem dX5_bitsOf_7 : decode cX5_bitsOf 7 = .ok (.ireturn, 1) := by decide +kernel
theorem dX5_bitsOf_8 : decode cX5_bitsOf 8 = .ok (.fload_n 0, 1) := by decide +kernel
theorem dX5_bitsOf_9 : decode cX5_bitsOf 9 = .ok (.fconst 0, 1) := by decide +kernel
theorem dX5_bitsOf_10 : decode cX5_bitsOf 10 = .ok (.fcmp .g, 1) := by decide +kernel
theorem dX5_bitsOf_11 : decode cX5_bitsOf 11 = .ok (.ifCond .ge 9, 3) := by decide +kernel
theorem dX5_bitsOf_14 : decode cX5_bitsOf 14 = .ok (.ldc_w 274, 3) := by decide +kernel
theorem dX5_bitsOf_17 : decode cX5_bitsOf 17 = .ok (.goto 4, 3) := by decide +kernel
theorem dX5_bitsOf_20 : decode cX5_bitsOf 20 = .ok (.iconst 0, 1) := by decide +kernel
theorem dX5_bitsOf_21 : decode cX5_bitsOf 21 = .ok (.istore_n 1, 1) := by decide +kernel
theorem dX5_bitsOf_22 : decode cX5_bitsOf 22 = .ok (.fload_n 0, 1) := by decide +kernel
theorem dX5_bitsOf_23 : decode cX5_bitsOf 23 = .ok (.fconst 0, 1) := by decide +kernel
theorem dX5_bitsOf_24 : decode cX5_bitsOf 24 = .ok (.fcmp .g, 1) := by decide +kernel
theorem dX5_bitsOf_25 : decode cX5_bitsOf 25 = .ok (.ifCond .ge 8, 3) := by decide +kernel
theorem dX5_bitsOf_28 : decode cX5_bitsOf 28 = .ok (.fload_n 0, 1) := by decide +kernel
theorem dX5_bitsOf_29 : decode cX5_bitsOf 29 = .ok (.fneg, 1) := by decide +kernel
theorem dX5_bitsOf_30 : decode cX5_bitsOf 30 = .ok (.goto 4, 3) := by decide +kernel
theorem dX5_bitsOf_33 : decode cX5_bitsOf 33 = .ok (.fload_n 0, 1) := by decide +kernel
theorem dX5_bitsOf_34 : decode cX5_bitsOf 34 = .ok (.fstore_n 2, 1) := by decide +kernel
theorem dX5_bitsOf_35 : decode cX5_bitsOf 35 = .ok (.sipush 150, 3) := by decide +kernel
theorem dX5_bitsOf_38 : decode cX5_bitsOf 38 = .ok (.istore_n 3, 1) := by decide +kernel
theorem dX5_bitsOf_39 : decode cX5_bitsOf 39 = .ok (.iconst 0, 1) := by decide +kernel
theorem dX5_bitsOf_40 : decode cX5_bitsOf 40 = .ok (.istore 4, 2) := by decide +kernel
theorem dX5_bitsOf_42 : decode cX5_bitsOf 42 = .ok (.iload 4, 2) := by decide +kernel
theorem dX5_bitsOf_44 : decode cX5_bitsOf 44 = .ok (.sipush 150, 3) := by decide +kernel
theorem dX5_bitsOf_47 : decode cX5_bitsOf 47 = .ok (.if_icmp .ge 24, 3) := by decide +kernel
theorem dX5_bitsOf_50 : decode cX5_bitsOf 50 = .ok (.fload_n 2, 1) := by decide +kernel
theorem dX5_bitsOf_51 : decode cX5_bitsOf 51 = .ok (.ldc_w 275, 3) := by decide +kernel
theorem dX5_bitsOf_54 : decode cX5_bitsOf 54 = .ok (.fcmp .g, 1) := by decide +kernel
theorem dX5_bitsOf_55 : decode cX5_bitsOf 55 = .ok (.ifCond .ge 16, 3) := by decide +kernel
theorem dX5_bitsOf_58 : decode cX5_bitsOf 58 = .ok (.fload_n 2, 1) := by decide +kernel
theorem dX5_bitsOf_59 : decode cX5_bitsOf 59 = .ok (.fconst 2, 1) := by decide +kernel
theorem dX5_bitsOf_60 : decode cX5_bitsOf 60 = .ok (.fmul, 1) := by decide +kernel
theorem dX5_bitsOf_61 : decode cX5_bitsOf 61 = .ok (.fstore_n 2, 1) := by decide +kernel
theorem dX5_bitsOf_62 : decode cX5_bitsOf 62 = .ok (.iinc 3 (-1), 3) := by decide +kernel
theorem dX5_bitsOf_65 : decode cX5_bitsOf 65 = .ok (.iinc 4 1, 3) := by decide +kernel
theorem dX5_bitsOf_68 : decode cX5_bitsOf 68 = .ok (.goto (-26), 3) := by decide +kernel
theorem dX5_bitsOf_71 : decode cX5_bitsOf 71 = .ok (.iload_n 1, 1) := by decide +kernel
theorem dX5_bitsOf_72 : decode cX5_bitsOf 72 = .ok (.iload_n 3, 1) := by decide +kernel
theorem dX5_bitsOf_73 : decode cX5_bitsOf 73 = .ok (.bipush 23, 2) := by decide +kernel
theorem dX5_bitsOf_75 : decode cX5_bitsOf 75 = .ok (.ishl, 1) := by decide +kernel
theorem dX5_bitsOf_76 : decode cX5_bitsOf 76 = .ok (.ior, 1) := by decide +kernel
theorem dX5_bitsOf_77 : decode cX5_bitsOf 77 = .ok (.fload_n 2, 1) := by decide +kernel
theorem dX5_bitsOf_78 : decode cX5_bitsOf 78 = .ok (.f2i, 1) := by decide +kernel
theorem dX5_bitsOf_79 : decode cX5_bitsOf 79 = .ok (.ldc_w 276, 3) := by decide +kernel
theorem dX5_bitsOf_82 : decode cX5_bitsOf 82 = .ok (.isub, 1) := by decide +kernel
theorem dX5_bitsOf_83 : decode cX5_bitsOf 83 = .ok (.ior, 1) := by decide +kernel
theorem dX5_bitsOf_84 : decode cX5_bitsOf 84 = .ok (.ireturn, 1) := by decide +kernel
theorem dL_lot_0 : decode cL_lot 0 = .ok (.iload_n 1, 1) := by decide +kernel
theorem dL_lot_1 : decode cL_lot 1 = .ok (.aload_n 0, 1) := by decide +kernel
theorem dL_lot_2 : decode cL_lot 2 = .ok (.arraylength, 1) := by decide +kernel
theorem dL_lot_3 : decode cL_lot 3 = .ok (.if_icmp .ge 9, 3) := by decide +kernel
theorem dL_lot_6 : decode cL_lot 6 = .ok (.aload_n 0, 1) := by decide +kernel
theorem dL_lot_7 : decode cL_lot 7 = .ok (.iload_n 1, 1) := by decide +kernel
theorem dL_lot_8 : decode cL_lot 8 = .ok (.iaload, 1) := by decide +kernel
theorem dL_lot_9 : decode cL_lot 9 = .ok (.goto 15, 3) := by decide +kernel
theorem dL_lot_12 : decode cL_lot 12 = .ok (.ldc 7, 2) := by decide +kernel
theorem dL_lot_14 : decode cL_lot 14 = .ok (.iload_n 1, 1) := by decide +kernel
theorem dL_lot_15 : decode cL_lot 15 = .ok (.sipush 3853, 3) := by decide +kernel
theorem dL_lot_18 : decode cL_lot 18 = .ok (.iadd, 1) := by decide +kernel
theorem dL_lot_19 : decode cL_lot 19 = .ok (.imul, 1) := by decide +kernel
theorem dL_lot_20 : decode cL_lot 20 = .ok (.sipush 3631, 3) := by decide +kernel
theorem dL_lot_23 : decode cL_lot 23 = .ok (.iadd, 1) := by decide +kernel
theorem dL_lot_24 : decode cL_lot 24 = .ok (.ireturn, 1) := by decide +kernel
theorem dL_low_0 : decode cL_low 0 = .ok (.iload_n 0, 1) := by decide +kernel
theorem dL_low_1 : decode cL_low 1 = .ok (.ldc 8, 2) := by decide +kernel
theorem dL_low_3 : decode cL_low 3 = .ok (.iand, 1) := by decide +kernel
theorem dL_low_4 : decode cL_low 4 = .ok (.iload_n 1, 1) := by decide +kernel
theorem dL_low_5 : decode cL_low 5 = .ok (.irem, 1) := by decide +kernel
theorem dL_low_6 : decode cL_low 6 = .ok (.ireturn, 1) := by decide +kernel
theorem dL_digest_0 : decode cL_digest 0 = .ok (.ldc2_w 9, 3) := by decide +kernel
theorem dL_digest_3 : decode cL_digest 3 = .ok (.lstore_n 1, 1) := by decide +kernel
theorem dL_digest_4 : decode cL_digest 4 = .ok (.iconst 0, 1) := by decide +kernel
theorem dL_digest_5 : decode cL_digest 5 = .ok (.istore_n 3, 1) := by decide +kernel
theorem dL_digest_6 : decode cL_digest 6 = .ok (.iload_n 3, 1) := by decide +kernel
theorem dL_digest_7 : decode cL_digest 7 = .ok (.aload_n 0, 1) := by decide +kernel
theorem dL_digest_8 : decode cL_digest 8 = .ok (.iconst 0, 1) := by decide +kernel
theorem dL_digest_9 : decode cL_digest 9 = .ok (.invokevirtual 11, 3) := by decide +kernel
theorem dL_digest_12 : decode cL_digest 12 = .ok (.if_icmp .ge 124, 3) := by decide +kernel
theorem dL_digest_15 : decode cL_digest 15 = .ok (.ldc2_w 17, 3) := by decide +kernel
theorem dL_digest_18 : decode cL_digest 18 = .ok (.ldc2_w 17, 3) := by decide +kernel
theorem dL_digest_21 : decode cL_digest 21 = .ok (.ldc2_w 17, 3) := by decide +kernel
theorem dL_digest_24 : decode cL_digest 24 = .ok (.ldc2_w 17, 3) := by decide +kernel
theorem dL_digest_27 : decode cL_digest 27 = .ok (.lload_n 1, 1) := by decide +kernel
theorem dL_digest_28 : decode cL_digest 28 = .ok (.lmul, 1) := by decide +kernel
theorem dL_digest_29 : decode cL_digest 29 = .ok (.aload_n 0, 1) := by decide +kernel
theorem dL_digest_30 : decode cL_digest 30 = .ok (.iload_n 3, 1) := by decide +kernel
theorem dL_digest_31 : decode cL_digest 31 = .ok (.iconst 1, 1) := by decide +kernel
theorem dL_digest_32 : decode cL_digest 32 = .ok (.invokevirtual 19, 3) := by decide +kernel
theorem dL_digest_35 : decode cL_digest 35 = .ok (.i2l, 1) := by decide +kernel
theorem dL_digest_36 : decode cL_digest 36 = .ok (.ladd, 1) := by decide +kernel
theorem dL_digest_37 : decode cL_digest 37 = .ok (.lmul, 1) := by decide +kernel
theorem dL_digest_38 : decode cL_digest 38 = .ok (.aload_n 0, 1) := by decide +kernel
theorem dL_digest_39 : decode cL_digest 39 = .ok (.iload_n 3, 1) := by decide +kernel
theorem dL_digest_40 : decode cL_digest 40 = .ok (.iconst 2, 1) := by decide +kernel
theorem dL_digest_41 : decode cL_digest 41 = .ok (.invokevirtual 19, 3) := by decide +kernel
theorem dL_digest_44 : decode cL_digest 44 = .ok (.i2l, 1) := by decide +kernel
theorem dL_digest_45 : decode cL_digest 45 = .ok (.ladd, 1) := by decide +kernel
theorem dL_digest_46 : decode cL_digest 46 = .ok (.lmul, 1) := by decide +kernel
theorem dL_digest_47 : decode cL_digest 47 = .ok (.aload_n 0, 1) := by decide +kernel
theorem dL_digest_48 : decode cL_digest 48 = .ok (.iload_n 3, 1) := by decide +kernel
theorem dL_digest_49 : decode cL_digest 49 = .ok (.iconst 3, 1) := by decide +kernel
theorem dL_digest_50 : decode cL_digest 50 = .ok (.invokevirtual 19, 3) := by decide +kernel
theorem dL_digest_53 : decode cL_digest 53 = .ok (.i2l, 1) := by decide +kernel
theorem dL_digest_54 : decode cL_digest 54 = .ok (.ladd, 1) := by decide +kernel
theorem dL_digest_55 : decode cL_digest 55 = .ok (.lmul, 1) := by decide +kernel
theorem dL_digest_56 : decode cL_digest 56 = .ok (.aload_n 0, 1) := by decide +kernel
theorem dL_digest_57 : decode cL_digest 57 = .ok (.iload_n 3, 1) := by decide +kernel
theorem dL_digest_58 : decode cL_digest 58 = .ok (.bipush 10, 2) := by decide +kernel
theorem dL_digest_60 : decode cL_digest 60 = .ok (.invokevirtual 19, 3) := by decide +kernel
theorem dL_digest_63 : decode cL_digest 63 = .ok (.i2l, 1) := by decide +kernel
theorem dL_digest_64 : decode cL_digest 64 = .ok (.ladd, 1) := by decide +kernel
theorem dL_digest_65 : decode cL_digest 65 = .ok (.lstore_n 1, 1) := by decide +kernel
theorem dL_digest_66 : decode cL_digest 66 = .ok (.iconst 0, 1) := by decide +kernel
theorem dL_digest_67 : decode cL_digest 67 = .ok (.istore 4, 2) := by decide +kernel
theorem dL_digest_69 : decode cL_digest 69 = .ok (.iload 4, 2) := by decide +kernel
theorem dL_digest_71 : decode cL_digest 71 = .ok (.aload_n 0, 1) := by decide +kernel
theorem dL_digest_72 : decode cL_digest 72 = .ok (.iload_n 3, 1) := by decide +kernel
theorem dL_digest_73 : decode cL_digest 73 = .ok (.iconst 0, 1) := by decide +kernel
theorem dL_digest_74 : decode cL_digest 74 = .ok (.invokevirtual 19, 3) := by decide +kernel
theorem dL_digest_77 : decode cL_digest 77 = .ok (.if_icmp .ge 53, 3) := by decide +kernel
theorem dL_digest_80 : decode cL_digest 80 = .ok (.ldc2_w 17, 3) := by decide +kernel
theorem dL_digest_83 : decode cL_digest 83 = .ok (.ldc2_w 17, 3) := by decide +kernel
theorem dL_digest_86 : decode cL_digest 86 = .ok (.ldc2_w 17, 3) := by decide +kernel
theorem dL_digest_89 : decode cL_digest 89 = .ok (.lload_n 1, 1) := by decide +kernel
theorem dL_digest_90 : decode cL_digest 90 = .ok (.lmul, 1) := by decide +kernel
theorem dL_digest_91 : decode cL_digest 91 = .ok (.aload_n 0, 1) := by decide +kernel
theorem dL_digest_92 : decode cL_digest 92 = .ok (.iload_n 3, 1) := by decide +kernel
theorem dL_digest_93 : decode cL_digest 93 = .ok (.iload 4, 2) := by decide +kernel
theorem dL_digest_95 : decode cL_digest 95 = .ok (.iconst 0, 1) := by decide +kernel
theorem dL_digest_96 : decode cL_digest 96 = .ok (.invokevirtual 23, 3) := by decide +kernel
theorem dL_digest_99 : decode cL_digest 99 = .ok (.i2l, 1) := by decide +kernel
theorem dL_digest_100 : decode cL_digest 100 = .ok (.ladd, 1) := by decide +kernel
theorem dL_digest_101 : decode cL_digest 101 = .ok (.lmul, 1) := by decide +kernel
theorem dL_digest_102 : decode cL_digest 102 = .ok (.aload_n 0, 1) := by decide +kernel
theorem dL_digest_103 : decode cL_digest 103 = .ok (.iload_n 3, 1) := by decide +kernel
theorem dL_digest_104 : decode cL_digest 104 = .ok (.iload 4, 2) := by decide +kernel
theorem dL_digest_106 : decode cL_digest 106 = .ok (.iconst 1, 1) := by decide +kernel
theorem dL_digest_107 : decode cL_digest 107 = .ok (.invokevirtual 23, 3) := by decide +kernel
theorem dL_digest_110 : decode cL_digest 110 = .ok (.i2l, 1) := by decide +kernel
theorem dL_digest_111 : decode cL_digest 111 = .ok (.ladd, 1) := by decide +kernel
theorem dL_digest_112 : decode cL_digest 112 = .ok (.lmul, 1) := by decide +kernel
theorem dL_digest_113 : decode cL_digest 113 = .ok (.aload_n 0, 1) := by decide +kernel
theorem dL_digest_114 : decode cL_digest 114 = .ok (.iload_n 3, 1) := by decide +kernel
theorem dL_digest_115 : decode cL_digest 115 = .ok (.iload 4, 2) := by decide +kernel
theorem dL_digest_117 : decode cL_digest 117 = .ok (.iconst 2, 1) := by decide +kernel
theorem dL_digest_118 : decode cL_digest 118 = .ok (.invokevirtual 23, 3) := by decide +kernel
theorem dL_digest_121 : decode cL_digest 121 = .ok (.i2l, 1) := by decide +kernel
theorem dL_digest_122 : decode cL_digest 122 = .ok (.ladd, 1) := by decide +kernel
theorem dL_digest_123 : decode cL_digest 123 = .ok (.lstore_n 1, 1) := by decide +kernel
theorem dL_digest_124 : decode cL_digest 124 = .ok (.iinc 4 1, 3) := by decide +kernel
theorem dL_digest_127 : decode cL_digest 127 = .ok (.goto (-58), 3) := by decide +kernel
theorem dL_digest_130 : decode cL_digest 130 = .ok (.iinc 3 1, 3) := by decide +kernel
theorem dL_digest_133 : decode cL_digest 133 = .ok (.goto (-127), 3) := by decide +kernel
theorem dL_digest_136 : decode cL_digest 136 = .ok (.iconst 0, 1) := by decide +kernel
theorem dL_digest_137 : decode cL_digest 137 = .ok (.istore_n 3, 1) := by decide +kernel
theorem dL_digest_138 : decode cL_digest 138 = .ok (.iload_n 3, 1) := by decide +kernel
theorem dL_digest_139 : decode cL_digest 139 = .ok (.iconst 2, 1) := by decide +kernel
theorem dL_digest_140 : decode cL_digest 140 = .ok (.if_icmp .ge 47, 3) := by decide +kernel
theorem dL_digest_143 : decode cL_digest 143 = .ok (.ldc2_w 17, 3) := by decide +kernel
theorem dL_digest_146 : decode cL_digest 146 = .ok (.ldc2_w 17, 3) := by decide +kernel
theorem dL_digest_149 : decode cL_digest 149 = .ok (.ldc2_w 17, 3) := by decide +kernel
theorem dL_digest_152 : decode cL_digest 152 = .ok (.lload_n 1, 1) := by decide +kernel
theorem dL_digest_153 : decode cL_digest 153 = .ok (.lmul, 1) := by decide +kernel
theorem dL_digest_154 : decode cL_digest 154 = .ok (.aload_n 0, 1) := by decide +kernel
theorem dL_digest_155 : decode cL_digest 155 = .ok (.iload_n 3, 1) := by decide +kernel
theorem dL_digest_156 : decode cL_digest 156 = .ok (.iconst 0, 1) := by decide +kernel
theorem dL_digest_157 : decode cL_digest 157 = .ok (.invokevirtual 27, 3) := by decide +kernel
theorem dL_digest_160 : decode cL_digest 160 = .ok (.i2l, 1) := by decide +kernel
theorem dL_digest_161 : decode cL_digest 161 = .ok (.ladd, 1) := by decide +kernel
theorem dL_digest_162 : decode cL_digest 162 = .ok (.lmul, 1) := by decide +kernel
theorem dL_digest_163 : decode cL_digest 163 = .ok (.aload_n 0, 1) := by decide +kernel
theorem dL_digest_164 : decode cL_digest 164 = .ok (.iload_n 3, 1) := by decide +kernel
theorem dL_digest_165 : decode cL_digest 165 = .ok (.iconst 1, 1) := by decide +kernel
theorem dL_digest_166 : decode cL_digest 166 = .ok (.invokevirtual 27, 3) := by decide +kernel
theorem dL_digest_169 : decode cL_digest 169 = .ok (.i2l, 1) := by decide +kernel
theorem dL_digest_170 : decode cL_digest 170 = .ok (.ladd, 1) := by decide +kernel
theorem dL_digest_171 : decode cL_digest 171 = .ok (.lmul, 1) := by decide +kernel
theorem dL_digest_172 : decode cL_digest 172 = .ok (.aload_n 0, 1) := by decide +kernel
theorem dL_digest_173 : decode cL_digest 173 = .ok (.iload_n 3, 1) := by decide +kernel
theorem dL_digest_174 : decode cL_digest 174 = .ok (.iconst 3, 1) := by decide +kernel
theorem dL_digest_175 : decode cL_digest 175 = .ok (.invokevirtual 27, 3) := by decide +kernel
theorem dL_digest_178 : decode cL_digest 178 = .ok (.i2l, 1) := by decide +kernel
theorem dL_digest_179 : decode cL_digest 179 = .ok (.ladd, 1) := by decide +kernel
theorem dL_digest_180 : decode cL_digest 180 = .ok (.lstore_n 1, 1) := by decide +kernel
theorem dL_digest_181 : decode cL_digest 181 = .ok (.iinc 3 1, 3) := by decide +kernel
theorem dL_digest_184 : decode cL_digest 184 = .ok (.goto (-46), 3) := by decide +kernel
theorem dL_digest_187 : decode cL_digest 187 = .ok (.ldc2_w 17, 3) := by decide +kernel
theorem dL_digest_190 : decode cL_digest 190 = .ok (.ldc2_w 17, 3) := by decide +kernel
theorem dL_digest_193 : decode cL_digest 193 = .ok (.ldc2_w 17, 3) := by decide +kernel
theorem dL_digest_196 : decode cL_digest 196 = .ok (.lload_n 1, 1) := by decide +kernel
theorem dL_digest_197 : decode cL_digest 197 = .ok (.lmul, 1) := by decide +kernel
theorem dL_digest_198 : decode cL_digest 198 = .ok (.aload_n 0, 1) := by decide +kernel
theorem dL_digest_199 : decode cL_digest 199 = .ok (.iconst 0, 1) := by decide +kernel
theorem dL_digest_200 : decode cL_digest 200 = .ok (.invokevirtual 11, 3) := by decide +kernel
theorem dL_digest_203 : decode cL_digest 203 = .ok (.i2l, 1) := by decide +kernel
theorem dL_digest_204 : decode cL_digest 204 = .ok (.ladd, 1) := by decide +kernel
theorem dL_digest_205 : decode cL_digest 205 = .ok (.lmul, 1) := by decide +kernel
theorem dL_digest_206 : decode cL_digest 206 = .ok (.aload_n 0, 1) := by decide +kernel
theorem dL_digest_207 : decode cL_digest 207 = .ok (.iconst 1, 1) := by decide +kernel
theorem dL_digest_208 : decode cL_digest 208 = .ok (.invokevirtual 11, 3) := by decide +kernel
theorem dL_digest_211 : decode cL_digest 211 = .ok (.i2l, 1) := by decide +kernel
theorem dL_digest_212 : decode cL_digest 212 = .ok (.ladd, 1) := by decide +kernel
theorem dL_digest_213 : decode cL_digest 213 = .ok (.lmul, 1) := by decide +kernel
theorem dL_digest_214 : decode cL_digest 214 = .ok (.aload_n 0, 1) := by decide +kernel
theorem dL_digest_215 : decode cL_digest 215 = .ok (.bipush 9, 2) := by decide +kernel
theorem dL_digest_217 : decode cL_digest 217 = .ok (.invokevirtual 11, 3) := by decide +kernel
theorem dL_digest_220 : decode cL_digest 220 = .ok (.i2l, 1) := by decide +kernel
theorem dL_digest_221 : decode cL_digest 221 = .ok (.ladd, 1) := by decide +kernel
theorem dL_digest_222 : decode cL_digest 222 = .ok (.lreturn, 1) := by decide +kernel
theorem dL_holds_0 : decode cL_holds 0 = .ok (.aload_n 0, 1) := by decide +kernel
theorem dL_holds_1 : decode cL_holds 1 = .ok (.iconst 0, 1) := by decide +kernel
theorem dL_holds_2 : decode cL_holds 2 = .ok (.invokevirtual 11, 3) := by decide +kernel
theorem dL_holds_5 : decode cL_holds 5 = .ok (.istore_n 1, 1) := by decide +kernel
theorem dL_holds_6 : decode cL_holds 6 = .ok (.iconst 0, 1) := by decide +kernel
theorem dL_holds_7 : decode cL_holds 7 = .ok (.istore_n 2, 1) := by decide +kernel
theorem dL_holds_8 : decode cL_holds 8 = .ok (.iconst 0, 1) := by decide +kernel
theorem dL_holds_9 : decode cL_holds 9 = .ok (.istore_n 3, 1) := by decide +kernel
theorem dL_holds_10 : decode cL_holds 10 = .ok (.iconst 1, 1) := by decide +kernel
theorem dL_holds_11 : decode cL_holds 11 = .ok (.istore 4, 2) := by decide +kernel
theorem dL_holds_13 : decode cL_holds 13 = .ok (.iconst 0, 1) := by decide +kernel
theorem dL_holds_14 : decode cL_holds 14 = .ok (.istore 5, 2) := by decide +kernel
theorem dL_holds_16 : decode cL_holds 16 = .ok (.iload 5, 2) := by decide +kernel
theorem dL_holds_18 : decode cL_holds 18 = .ok (.iload_n 1, 1) := by decide +kernel
theorem dL_holds_19 : decode cL_holds 19 = .ok (.if_icmp .ge 239, 3) := by decide +kernel
theorem dL_holds_22 : decode cL_holds 22 = .ok (.iload 4, 2) := by decide +kernel
theorem dL_holds_24 : decode cL_holds 24 = .ok (.ifCond .eq 234, 3) := by decide +kernel
theorem dL_holds_27 : decode cL_holds 27 = .ok (.aload_n 0, 1) := by decide +kernel
theorem dL_holds_28 : decode cL_holds 28 = .ok (.iload 5, 2) := by decide +kernel
theorem dL_holds_30 : decode cL_holds 30 = .ok (.iconst 0, 1) := by decide +kernel
theorem dL_holds_31 : decode cL_holds 31 = .ok (.invokevirtual 19, 3) := by decide +kernel
theorem dL_holds_34 : decode cL_holds 34 = .ok (.istore 6, 2) := by decide +kernel
theorem dL_holds_36 : decode cL_holds 36 = .ok (.iload_n 2, 1) := by decide +kernel
theorem dL_holds_37 : decode cL_holds 37 = .ok (.iload 6, 2) := by decide +kernel
theorem dL_holds_39 : decode cL_holds 39 = .ok (.iadd, 1) := by decide +kernel
theorem dL_holds_40 : decode cL_holds 40 = .ok (.istore_n 2, 1) := by decide +kernel
theorem dL_holds_41 : decode cL_holds 41 = .ok (.iload_n 3, 1) := by decide +kernel
theorem dL_holds_42 : decode cL_holds 42 = .ok (.aload_n 0, 1) := by decide +kernel
theorem dL_holds_43 : decode cL_holds 43 = .ok (.iload 5, 2) := by decide +kernel
theorem dL_holds_45 : decode cL_holds 45 = .ok (.bipush 10, 2) := by decide +kernel
theorem dL_holds_47 : decode cL_holds 47 = .ok (.invokevirtual 19, 3) := by decide +kernel
theorem dL_holds_50 : decode cL_holds 50 = .ok (.iadd, 1) := by decide +kernel
theorem dL_holds_51 : decode cL_holds 51 = .ok (.istore_n 3, 1) := by decide +kernel
theorem dL_holds_52 : decode cL_holds 52 = .ok (.iload 6, 2) := by decide +kernel
theorem dL_holds_54 : decode cL_holds 54 = .ok (.ifCond .lt 93, 3) := by decide +kernel
theorem dL_holds_57 : decode cL_holds 57 = .ok (.iload 6, 2) := by decide +kernel
theorem dL_holds_59 : decode cL_holds 59 = .ok (.iconst 3, 1) := by decide +kernel
theorem dL_holds_60 : decode cL_holds 60 = .ok (.if_icmp .gt 87, 3) := by decide +kernel
theorem dL_holds_63 : decode cL_holds 63 = .ok (.iload 6, 2) := by decide +kernel
theorem dL_holds_65 : decode cL_holds 65 = .ok (.ifCond .ne 7, 3) := by decide +kernel
theorem dL_holds_68 : decode cL_holds 68 = .ok (.iconst 1, 1) := by decide +kernel
theorem dL_holds_69 : decode cL_holds 69 = .ok (.goto 4, 3) := by decide +kernel
theorem dL_holds_72 : decode cL_holds 72 = .ok (.iconst 0, 1) := by decide +kernel
theorem dL_holds_73 : decode cL_holds 73 = .ok (.aload_n 0, 1) := by decide +kernel
theorem dL_holds_74 : decode cL_holds 74 = .ok (.iload 5, 2) := by decide +kernel
theorem dL_holds_76 : decode cL_holds 76 = .ok (.iconst 4, 1) := by decide +kernel
theorem dL_holds_77 : decode cL_holds 77 = .ok (.invokevirtual 19, 3) := by decide +kernel
theorem dL_holds_80 : decode cL_holds 80 = .ok (.ifCond .le 7, 3) := by decide +kernel
theorem dL_holds_83 : decode cL_holds 83 = .ok (.iconst 1, 1) := by decide +kernel
theorem dL_holds_84 : decode cL_holds 84 = .ok (.goto 4, 3) := by decide +kernel
theorem dL_holds_87 : decode cL_holds 87 = .ok (.iconst 0, 1) := by decide +kernel
theorem dL_holds_88 : decode cL_holds 88 = .ok (.if_icmp .ne 59, 3) := by decide +kernel
theorem dL_holds_91 : decode cL_holds 91 = .ok (.aload_n 0, 1) := by decide +kernel
theorem dL_holds_92 : decode cL_holds 92 = .ok (.iload 5, 2) := by decide +kernel
theorem dL_holds_94 : decode cL_holds 94 = .ok (.iload 6, 2) := by decide +kernel
theorem dL_holds_96 : decode cL_holds 96 = .ok (.iconst 0, 1) := by decide +kernel
theorem dL_holds_97 : decode cL_holds 97 = .ok (.invokevirtual 23, 3) := by decide +kernel
theorem dL_holds_100 : decode cL_holds 100 = .ok (.iconst (-1), 1) := by decide +kernel
theorem dL_holds_101 : decode cL_holds 101 = .ok (.if_icmp .ne 46, 3) := by decide +kernel
theorem dL_holds_104 : decode cL_holds 104 = .ok (.aload_n 0, 1) := by decide +kernel
theorem dL_holds_105 : decode cL_holds 105 = .ok (.iload 5, 2) := by decide +kernel
theorem dL_holds_107 : decode cL_holds 107 = .ok (.iconst 4, 1) := by decide +kernel
theorem dL_holds_108 : decode cL_holds 108 = .ok (.invokevirtual 19, 3) := by decide +kernel
theorem dL_holds_111 : decode cL_holds 111 = .ok (.iconst 1, 1) := by decide +kernel
theorem dL_holds_112 : decode cL_holds 112 = .ok (.if_icmp .ne 7, 3) := by decide +kernel
theorem dL_holds_115 : decode cL_holds 115 = .ok (.iconst 1, 1) := by decide +kernel
theorem dL_holds_116 : decode cL_holds 116 = .ok (.goto 4, 3) := by decide +kernel
theorem dL_holds_119 : decode cL_holds 119 = .ok (.iconst 0, 1) := by decide +kernel
theorem dL_holds_120 : decode cL_holds 120 = .ok (.iload 6, 2) := by decide +kernel
theorem dL_holds_122 : decode cL_holds 122 = .ok (.ifCond .ne 17, 3) := by decide +kernel
theorem dL_holds_125 : decode cL_holds 125 = .ok (.aload_n 0, 1) := by decide +kernel
theorem dL_holds_126 : decode cL_holds 126 = .ok (.iload 5, 2) := by decide +kernel
theorem dL_holds_128 : decode cL_holds 128 = .ok (.iconst 3, 1) := by decide +kernel
theorem dL_holds_129 : decode cL_holds 129 = .ok (.invokevirtual 19, 3) := by decide +kernel
theorem dL_holds_132 : decode cL_holds 132 = .ok (.ifCond .le 7, 3) := by decide +kernel
theorem dL_holds_135 : decode cL_holds 135 = .ok (.iconst 1, 1) := by decide +kernel
theorem dL_holds_136 : decode cL_holds 136 = .ok (.goto 4, 3) := by decide +kernel
theorem dL_holds_139 : decode cL_holds 139 = .ok (.iconst 0, 1) := by decide +kernel
theorem dL_holds_140 : decode cL_holds 140 = .ok (.if_icmp .ne 7, 3) := by decide +kernel
theorem dL_holds_143 : decode cL_holds 143 = .ok (.iconst 1, 1) := by decide +kernel
theorem dL_holds_144 : decode cL_holds 144 = .ok (.goto 4, 3) := by decide +kernel
theorem dL_holds_147 : decode cL_holds 147 = .ok (.iconst 0, 1) := by decide +kernel
theorem dL_holds_148 : decode cL_holds 148 = .ok (.istore 4, 2) := by decide +kernel
theorem dL_holds_150 : decode cL_holds 150 = .ok (.iconst 0, 1) := by decide +kernel
theorem dL_holds_151 : decode cL_holds 151 = .ok (.istore 7, 2) := by decide +kernel
theorem dL_holds_153 : decode cL_holds 153 = .ok (.iload 7, 2) := by decide +kernel
theorem dL_holds_155 : decode cL_holds 155 = .ok (.iload 6, 2) := by decide +kernel
theorem dL_holds_157 : decode cL_holds 157 = .ok (.if_icmp .ge 95, 3) := by decide +kernel
theorem dL_holds_160 : decode cL_holds 160 = .ok (.aload_n 0, 1) := by decide +kernel
theorem dL_holds_161 : decode cL_holds 161 = .ok (.iload 5, 2) := by decide +kernel
theorem dL_holds_163 : decode cL_holds 163 = .ok (.iload 7, 2) := by decide +kernel
theorem dL_holds_165 : decode cL_holds 165 = .ok (.iconst 0, 1) := by decide +kernel
theorem dL_holds_166 : decode cL_holds 166 = .ok (.invokevirtual 23, 3) := by decide +kernel
theorem dL_holds_169 : decode cL_holds 169 = .ok (.istore 8, 2) := by decide +kernel
theorem dL_holds_171 : decode cL_holds 171 = .ok (.iload 4, 2) := by decide +kernel
theorem dL_holds_173 : decode cL_holds 173 = .ok (.ifCond .eq 70, 3) := by decide +kernel
theorem dL_holds_176 : decode cL_holds 176 = .ok (.iload 8, 2) := by decide +kernel
theorem dL_holds_178 : decode cL_holds 178 = .ok (.ifCond .lt 65, 3) := by decide +kernel
theorem dL_holds_181 : decode cL_holds 181 = .ok (.iload 8, 2) := by decide +kernel
theorem dL_holds_183 : decode cL_holds 183 = .ok (.iload_n 1, 1) := by decide +kernel
theorem dL_holds_184 : decode cL_holds 184 = .ok (.if_icmp .ge 59, 3) := by decide +kernel
theorem dL_holds_187 : decode cL_holds 187 = .ok (.aload_n 0, 1) := by decide +kernel
theorem dL_holds_188 : decode cL_holds 188 = .ok (.iload 5, 2) := by decide +kernel
theorem dL_holds_190 : decode cL_holds 190 = .ok (.iload 7, 2) := by decide +kernel
theorem dL_holds_192 : decode cL_holds 192 = .ok (.iconst 1, 1) := by decide +kernel
theorem dL_holds_193 : decode cL_holds 193 = .ok (.invokevirtual 23, 3) := by decide +kernel
theorem dL_holds_196 : decode cL_holds 196 = .ok (.ifCond .lt 47, 3) := by decide +kernel
theorem dL_holds_199 : decode cL_holds 199 = .ok (.aload_n 0, 1) := by decide +kernel
theorem dL_holds_200 : decode cL_holds 200 = .ok (.iload 5, 2) := by decide +kernel
theorem dL_holds_202 : decode cL_holds 202 = .ok (.iload 7, 2) := by decide +kernel
theorem dL_holds_204 : decode cL_holds 204 = .ok (.iconst 1, 1) := by decide +kernel
theorem dL_holds_205 : decode cL_holds 205 = .ok (.invokevirtual 23, 3) := by decide +kernel
theorem dL_holds_208 : decode cL_holds 208 = .ok (.bipush 32, 2) := by decide +kernel
theorem dL_holds_210 : decode cL_holds 210 = .ok (.if_icmp .ge 33, 3) := by decide +kernel
theorem dL_holds_213 : decode cL_holds 213 = .ok (.aload_n 0, 1) := by decide +kernel
theorem dL_holds_214 : decode cL_holds 214 = .ok (.iload 5, 2) := by decide +kernel
theorem dL_holds_216 : decode cL_holds 216 = .ok (.iload 7, 2) := by decide +kernel
theorem dL_holds_218 : decode cL_holds 218 = .ok (.iconst 2, 1) := by decide +kernel
theorem dL_holds_219 : decode cL_holds 219 = .ok (.invokevirtual 23, 3) := by decide +kernel
theorem dL_holds_222 : decode cL_holds 222 = .ok (.ifCond .lt 21, 3) := by decide +kernel
theorem dL_holds_225 : decode cL_holds 225 = .ok (.aload_n 0, 1) := by decide +kernel
theorem dL_holds_226 : decode cL_holds 226 = .ok (.iload 5, 2) := by decide +kernel
theorem dL_holds_228 : decode cL_holds 228 = .ok (.iload 7, 2) := by decide +kernel
theorem dL_holds_230 : decode cL_holds 230 = .ok (.iconst 2, 1) := by decide +kernel
theorem dL_holds_231 : decode cL_holds 231 = .ok (.invokevirtual 23, 3) := by decide +kernel
theorem dL_holds_234 : decode cL_holds 234 = .ok (.bipush 32, 2) := by decide +kernel
theorem dL_holds_236 : decode cL_holds 236 = .ok (.if_icmp .ge 7, 3) := by decide +kernel
theorem dL_holds_239 : decode cL_holds 239 = .ok (.iconst 1, 1) := by decide +kernel
theorem dL_holds_240 : decode cL_holds 240 = .ok (.goto 4, 3) := by decide +kernel
theorem dL_holds_243 : decode cL_holds 243 = .ok (.iconst 0, 1) := by decide +kernel
theorem dL_holds_244 : decode cL_holds 244 = .ok (.istore 4, 2) := by decide +kernel
theorem dL_holds_246 : decode cL_holds 246 = .ok (.iinc 7 1, 3) := by decide +kernel
theorem dL_holds_249 : decode cL_holds 249 = .ok (.goto (-96), 3) := by decide +kernel
theorem dL_holds_252 : decode cL_holds 252 = .ok (.iinc 5 1, 3) := by decide +kernel
theorem dL_holds_255 : decode cL_holds 255 = .ok (.goto (-239), 3) := by decide +kernel
theorem dL_holds_258 : decode cL_holds 258 = .ok (.iconst 0, 1) := by decide +kernel
theorem dL_holds_259 : decode cL_holds 259 = .ok (.istore 5, 2) := by decide +kernel
theorem dL_holds_261 : decode cL_holds 261 = .ok (.iload 5, 2) := by decide +kernel
theorem dL_holds_263 : decode cL_holds 263 = .ok (.iconst 2, 1) := by decide +kernel
theorem dL_holds_264 : decode cL_holds 264 = .ok (.if_icmp .ge 123, 3) := by decide +kernel
theorem dL_holds_267 : decode cL_holds 267 = .ok (.aload_n 0, 1) := by decide +kernel
theorem dL_holds_268 : decode cL_holds 268 = .ok (.iload 5, 2) := by decide +kernel
theorem dL_holds_270 : decode cL_holds 270 = .ok (.iconst 0, 1) := by decide +kernel
theorem dL_holds_271 : decode cL_holds 271 = .ok (.invokevirtual 27, 3) := by decide +kernel
theorem dL_holds_274 : decode cL_holds 274 = .ok (.istore 6, 2) := by decide +kernel
theorem dL_holds_276 : decode cL_holds 276 = .ok (.aload_n 0, 1) := by decide +kernel
theorem dL_holds_277 : decode cL_holds 277 = .ok (.iload 5, 2) := by decide +kernel
theorem dL_holds_279 : decode cL_holds 279 = .ok (.iconst 1, 1) := by decide +kernel
theorem dL_holds_280 : decode cL_holds 280 = .ok (.invokevirtual 27, 3) := by decide +kernel
theorem dL_holds_283 : decode cL_holds 283 = .ok (.istore 7, 2) := by decide +kernel
theorem dL_holds_285 : decode cL_holds 285 = .ok (.iload 4, 2) := by decide +kernel
theorem dL_holds_287 : decode cL_holds 287 = .ok (.ifCond .eq 91, 3) := by decide +kernel
theorem dL_holds_290 : decode cL_holds 290 = .ok (.iload 6, 2) := by decide +kernel
theorem dL_holds_292 : decode cL_holds 292 = .ok (.bipush (-5), 2) := by decide +kernel
theorem dL_holds_294 : decode cL_holds 294 = .ok (.if_icmp .ne 29, 3) := by decide +kernel
theorem dL_holds_297 : decode cL_holds 297 = .ok (.aload_n 0, 1) := by decide +kernel
theorem dL_holds_298 : decode cL_holds 298 = .ok (.iload 5, 2) := by decide +kernel
theorem dL_holds_300 : decode cL_holds 300 = .ok (.iconst 2, 1) := by decide +kernel
theorem dL_holds_301 : decode cL_holds 301 = .ok (.invokevirtual 27, 3) := by decide +kernel
theorem dL_holds_304 : decode cL_holds 304 = .ok (.bipush (-5), 2) := by decide +kernel
theorem dL_holds_306 : decode cL_holds 306 = .ok (.if_icmp .ne 72, 3) := by decide +kernel
theorem dL_holds_309 : decode cL_holds 309 = .ok (.aload_n 0, 1) := by decide +kernel
theorem dL_holds_310 : decode cL_holds 310 = .ok (.iload 5, 2) := by decide +kernel
theorem dL_holds_312 : decode cL_holds 312 = .ok (.iconst 0, 1) := by decide +kernel
theorem dL_holds_313 : decode cL_holds 313 = .ok (.invokevirtual 32, 3) := by decide +kernel
theorem dL_holds_316 : decode cL_holds 316 = .ok (.iconst 1, 1) := by decide +kernel
theorem dL_holds_317 : decode cL_holds 317 = .ok (.if_icmp .ne 61, 3) := by decide +kernel
theorem dL_holds_320 : decode cL_holds 320 = .ok (.goto 54, 3) := by decide +kernel
theorem dL_holds_323 : decode cL_holds 323 = .ok (.iload 6, 2) := by decide +kernel
theorem dL_holds_325 : decode cL_holds 325 = .ok (.ifCond .lt 53, 3) := by decide +kernel
theorem dL_holds_328 : decode cL_holds 328 = .ok (.iload 6, 2) := by decide +kernel
theorem dL_holds_330 : decode cL_holds 330 = .ok (.iload_n 1, 1) := by decide +kernel
theorem dL_holds_331 : decode cL_holds 331 = .ok (.if_icmp .ge 47, 3) := by decide +kernel
theorem dL_holds_334 : decode cL_holds 334 = .ok (.iload 7, 2) := by decide +kernel
theorem dL_holds_336 : decode cL_holds 336 = .ok (.ifCond .lt 42, 3) := by decide +kernel
theorem dL_holds_339 : decode cL_holds 339 = .ok (.iload 7, 2) := by decide +kernel
theorem dL_holds_341 : decode cL_holds 341 = .ok (.bipush 32, 2) := by decide +kernel
theorem dL_holds_343 : decode cL_holds 343 = .ok (.if_icmp .ge 35, 3) := by decide +kernel
theorem dL_holds_346 : decode cL_holds 346 = .ok (.aload_n 0, 1) := by decide +kernel
theorem dL_holds_347 : decode cL_holds 347 = .ok (.iload 5, 2) := by decide +kernel
theorem dL_holds_349 : decode cL_holds 349 = .ok (.iconst 3, 1) := by decide +kernel
theorem dL_holds_350 : decode cL_holds 350 = .ok (.invokevirtual 27, 3) := by decide +kernel
theorem dL_holds_353 : decode cL_holds 353 = .ok (.ifCond .lt 25, 3) := by decide +kernel
theorem dL_holds_356 : decode cL_holds 356 = .ok (.aload_n 0, 1) := by decide +kernel
theorem dL_holds_357 : decode cL_holds 357 = .ok (.iload 5, 2) := by decide +kernel
theorem dL_holds_359 : decode cL_holds 359 = .ok (.iconst 2, 1) := by decide +kernel
theorem dL_holds_360 : decode cL_holds 360 = .ok (.invokevirtual 27, 3) := by decide +kernel
theorem dL_holds_363 : decode cL_holds 363 = .ok (.aload_n 0, 1) := by decide +kernel
theorem dL_holds_364 : decode cL_holds 364 = .ok (.iload 6, 2) := by decide +kernel
theorem dL_holds_366 : decode cL_holds 366 = .ok (.iconst 0, 1) := by decide +kernel
theorem dL_holds_367 : decode cL_holds 367 = .ok (.invokevirtual 19, 3) := by decide +kernel
theorem dL_holds_370 : decode cL_holds 370 = .ok (.ishr, 1) := by decide +kernel
theorem dL_holds_371 : decode cL_holds 371 = .ok (.ifCond .ne 7, 3) := by decide +kernel
theorem dL_holds_374 : decode cL_holds 374 = .ok (.iconst 1, 1) := by decide +kernel
theorem dL_holds_375 : decode cL_holds 375 = .ok (.goto 4, 3) := by decide +kernel
theorem dL_holds_378 : decode cL_holds 378 = .ok (.iconst 0, 1) := by decide +kernel
theorem dL_holds_379 : decode cL_holds 379 = .ok (.istore 4, 2) := by decide +kernel
theorem dL_holds_381 : decode cL_holds 381 = .ok (.iinc 5 1, 3) := by decide +kernel
theorem dL_holds_384 : decode cL_holds 384 = .ok (.goto (-123), 3) := by decide +kernel
theorem dL_holds_387 : decode cL_holds 387 = .ok (.iload 4, 2) := by decide +kernel
theorem dL_holds_389 : decode cL_holds 389 = .ok (.ifCond .eq 21, 3) := by decide +kernel
theorem dL_holds_392 : decode cL_holds 392 = .ok (.iload_n 2, 1) := by decide +kernel
theorem dL_holds_393 : decode cL_holds 393 = .ok (.aload_n 0, 1) := by decide +kernel
theorem dL_holds_394 : decode cL_holds 394 = .ok (.iconst 1, 1) := by decide +kernel
theorem dL_holds_395 : decode cL_holds 395 = .ok (.invokevirtual 11, 3) := by decide +kernel
theorem dL_holds_398 : decode cL_holds 398 = .ok (.if_icmp .ne 12, 3) := by decide +kernel
theorem dL_holds_401 : decode cL_holds 401 = .ok (.iload_n 3, 1) := by decide +kernel
theorem dL_holds_402 : decode cL_holds 402 = .ok (.iload_n 2, 1) := by decide +kernel
theorem dL_holds_403 : decode cL_holds 403 = .ok (.if_icmp .ne 7, 3) := by decide +kernel
theorem dL_holds_406 : decode cL_holds 406 = .ok (.iconst 1, 1) := by decide +kernel
theorem dL_holds_407 : decode cL_holds 407 = .ok (.goto 4, 3) := by decide +kernel
theorem dL_holds_410 : decode cL_holds 410 = .ok (.iconst 0, 1) := by decide +kernel
theorem dL_holds_411 : decode cL_holds 411 = .ok (.ireturn, 1) := by decide +kernel
theorem dL_would_0 : decode cL_would 0 = .ok (.aload_n 0, 1) := by decide +kernel
theorem dL_would_1 : decode cL_would 1 = .ok (.iconst 0, 1) := by decide +kernel
theorem dL_would_2 : decode cL_would 2 = .ok (.invokevirtual 11, 3) := by decide +kernel
theorem dL_would_5 : decode cL_would 5 = .ok (.istore_n 2, 1) := by decide +kernel
theorem dL_would_6 : decode cL_would 6 = .ok (.aload_n 0, 1) := by decide +kernel
theorem dL_would_7 : decode cL_would 7 = .ok (.bipush 8, 2) := by decide +kernel
theorem dL_would_9 : decode cL_would 9 = .ok (.invokevirtual 11, 3) := by decide +kernel
theorem dL_would_12 : decode cL_would 12 = .ok (.istore_n 3, 1) := by decide +kernel
theorem dL_would_13 : decode cL_would 13 = .ok (.aload_n 0, 1) := by decide +kernel
theorem dL_would_14 : decode cL_would 14 = .ok (.iconst 5, 1) := by decide +kernel
theorem dL_would_15 : decode cL_would 15 = .ok (.invokevirtual 11, 3) := by decide +kernel
theorem dL_would_18 : decode cL_would 18 = .ok (.istore 4, 2) := by decide +kernel
theorem dL_would_20 : decode cL_would 20 = .ok (.iload_n 1, 1) := by decide +kernel
theorem dL_would_21 : decode cL_would 21 = .ok (.iload_n 2, 1) := by decide +kernel
theorem dL_would_22 : decode cL_would 22 = .ok (.iconst 1, 1) := by decide +kernel
theorem dL_would_23 : decode cL_would 23 = .ok (.iadd, 1) := by decide +kernel
theorem dL_would_24 : decode cL_would 24 = .ok (.invokestatic 35, 3) := by decide +kernel
theorem dL_would_27 : decode cL_would 27 = .ok (.istore 5, 2) := by decide +kernel
theorem dL_would_29 : decode cL_would 29 = .ok (.iload_n 3, 1) := by decide +kernel
theorem dL_would_30 : decode cL_would 30 = .ok (.bipush (-5), 2) := by decide +kernel
theorem dL_would_32 : decode cL_would 32 = .ok (.if_icmp .ne 7, 3) := by decide +kernel
theorem dL_would_35 : decode cL_would 35 = .ok (.iconst 1, 1) := by decide +kernel
theorem dL_would_36 : decode cL_would 36 = .ok (.goto 4, 3) := by decide +kernel
theorem dL_would_39 : decode cL_would 39 = .ok (.iconst 0, 1) := by decide +kernel
theorem dL_would_40 : decode cL_would 40 = .ok (.aload_n 0, 1) := by decide +kernel
theorem dL_would_41 : decode cL_would 41 = .ok (.invokevirtual 38, 3) := by decide +kernel
theorem dL_would_44 : decode cL_would 44 = .ok (.bipush (-5), 2) := by decide +kernel
theorem dL_would_46 : decode cL_would 46 = .ok (.if_icmp .ne 7, 3) := by decide +kernel
theorem dL_would_49 : decode cL_would 49 = .ok (.iconst 1, 1) := by decide +kernel
theorem dL_would_50 : decode cL_would 50 = .ok (.goto 4, 3) := by decide +kernel
theorem dL_would_53 : decode cL_would 53 = .ok (.iconst 0, 1) := by decide +kernel
theorem dL_would_54 : decode cL_would 54 = .ok (.if_icmp .ne 92, 3) := by decide +kernel
theorem dL_would_57 : decode cL_would 57 = .ok (.iload_n 3, 1) := by decide +kernel
theorem dL_would_58 : decode cL_would 58 = .ok (.bipush (-5), 2) := by decide +kernel
theorem dL_would_60 : decode cL_would 60 = .ok (.if_icmp .ne 7, 3) := by decide +kernel
theorem dL_would_63 : decode cL_would 63 = .ok (.iconst 1, 1) := by decide +kernel
theorem dL_would_64 : decode cL_would 64 = .ok (.goto 4, 3) := by decide +kernel
theorem dL_would_67 : decode cL_would 67 = .ok (.iconst 0, 1) := by decide +kernel
theorem dL_would_68 : decode cL_would 68 = .ok (.aload_n 0, 1) := by decide +kernel
theorem dL_would_69 : decode cL_would 69 = .ok (.bipush 7, 2) := by decide +kernel
theorem dL_would_71 : decode cL_would 71 = .ok (.invokevirtual 11, 3) := by decide +kernel
theorem dL_would_74 : decode cL_would 74 = .ok (.ifCond .ne 7, 3) := by decide +kernel
theorem dL_would_77 : decode cL_would 77 = .ok (.iconst 1, 1) := by decide +kernel
theorem dL_would_78 : decode cL_would 78 = .ok (.goto 4, 3) := by decide +kernel
theorem dL_would_81 : decode cL_would 81 = .ok (.iconst 0, 1) := by decide +kernel
theorem dL_would_82 : decode cL_would 82 = .ok (.if_icmp .ne 64, 3) := by decide +kernel
theorem dL_would_85 : decode cL_would 85 = .ok (.iload 4, 2) := by decide +kernel
theorem dL_would_87 : decode cL_would 87 = .ok (.bipush 32, 2) := by decide +kernel
theorem dL_would_89 : decode cL_would 89 = .ok (.iload_n 2, 1) := by decide +kernel
theorem dL_would_90 : decode cL_would 90 = .ok (.imul, 1) := by decide +kernel
theorem dL_would_91 : decode cL_would 91 = .ok (.if_icmp .gt 55, 3) := by decide +kernel
theorem dL_would_94 : decode cL_would 94 = .ok (.iload_n 2, 1) := by decide +kernel
theorem dL_would_95 : decode cL_would 95 = .ok (.ifCond .ne 7, 3) := by decide +kernel
theorem dL_would_98 : decode cL_would 98 = .ok (.iconst 1, 1) := by decide +kernel
theorem dL_would_99 : decode cL_would 99 = .ok (.goto 4, 3) := by decide +kernel
theorem dL_would_102 : decode cL_would 102 = .ok (.iconst 0, 1) := by decide +kernel
theorem dL_would_103 : decode cL_would 103 = .ok (.iload 4, 2) := by decide +kernel
theorem dL_would_105 : decode cL_would 105 = .ok (.ifCond .ne 7, 3) := by decide +kernel
theorem dL_would_108 : decode cL_would 108 = .ok (.iconst 1, 1) := by decide +kernel
theorem dL_would_109 : decode cL_would 109 = .ok (.goto 4, 3) := by decide +kernel
theorem dL_would_112 : decode cL_would 112 = .ok (.iconst 0, 1) := by decide +kernel
theorem dL_would_113 : decode cL_would 113 = .ok (.if_icmp .ne 33, 3) := by decide +kernel
theorem dL_would_116 : decode cL_would 116 = .ok (.aload_n 0, 1) := by decide +kernel
theorem dL_would_117 : decode cL_would 117 = .ok (.iconst 2, 1) := by decide +kernel
theorem dL_would_118 : decode cL_would 118 = .ok (.invokevirtual 11, 3) := by decide +kernel
theorem dL_would_121 : decode cL_would 121 = .ok (.aload_n 0, 1) := by decide +kernel
theorem dL_would_122 : decode cL_would 122 = .ok (.bipush 6, 2) := by decide +kernel
theorem dL_would_124 : decode cL_would 124 = .ok (.invokevirtual 11, 3) := by decide +kernel
theorem dL_would_127 : decode cL_would 127 = .ok (.iadd, 1) := by decide +kernel
theorem dL_would_128 : decode cL_would 128 = .ok (.iload_n 2, 1) := by decide +kernel
theorem dL_would_129 : decode cL_would 129 = .ok (.if_icmp .gt 17, 3) := by decide +kernel
theorem dL_would_132 : decode cL_would 132 = .ok (.aload_n 0, 1) := by decide +kernel
theorem dL_would_133 : decode cL_would 133 = .ok (.iconst 4, 1) := by decide +kernel
theorem dL_would_134 : decode cL_would 134 = .ok (.invokevirtual 11, 3) := by decide +kernel
theorem dL_would_137 : decode cL_would 137 = .ok (.iload 4, 2) := by decide +kernel
theorem dL_would_139 : decode cL_would 139 = .ok (.if_icmp .gt 7, 3) := by decide +kernel
theorem dL_would_142 : decode cL_would 142 = .ok (.iconst 1, 1) := by decide +kernel
theorem dL_would_143 : decode cL_would 143 = .ok (.goto 4, 3) := by decide +kernel
theorem dL_would_146 : decode cL_would 146 = .ok (.iconst 0, 1) := by decide +kernel
theorem dL_would_147 : decode cL_would 147 = .ok (.istore 6, 2) := by decide +kernel
theorem dL_would_149 : decode cL_would 149 = .ok (.iload 6, 2) := by decide +kernel
theorem dL_would_151 : decode cL_would 151 = .ok (.ifCond .eq 93, 3) := by decide +kernel
theorem dL_would_154 : decode cL_would 154 = .ok (.iload_n 3, 1) := by decide +kernel
theorem dL_would_155 : decode cL_would 155 = .ok (.bipush (-5), 2) := by decide +kernel
theorem dL_would_157 : decode cL_would 157 = .ok (.if_icmp .eq 87, 3) := by decide +kernel
theorem dL_would_160 : decode cL_would 160 = .ok (.aload_n 0, 1) := by decide +kernel
theorem dL_would_161 : decode cL_would 161 = .ok (.iload_n 3, 1) := by decide +kernel
theorem dL_would_162 : decode cL_would 162 = .ok (.iconst 0, 1) := by decide +kernel
theorem dL_would_163 : decode cL_would 163 = .ok (.invokevirtual 42, 3) := by decide +kernel
theorem dL_would_166 : decode cL_would 166 = .ok (.istore 7, 2) := by decide +kernel
theorem dL_would_168 : decode cL_would 168 = .ok (.aload_n 0, 1) := by decide +kernel
theorem dL_would_169 : decode cL_would 169 = .ok (.iconst 0, 1) := by decide +kernel
theorem dL_would_170 : decode cL_would 170 = .ok (.iconst 0, 1) := by decide +kernel
theorem dL_would_171 : decode cL_would 171 = .ok (.invokevirtual 42, 3) := by decide +kernel
theorem dL_would_174 : decode cL_would 174 = .ok (.ifCond .ne 67, 3) := by decide +kernel
theorem dL_would_177 : decode cL_would 177 = .ok (.aload_n 0, 1) := by decide +kernel
theorem dL_would_178 : decode cL_would 178 = .ok (.iload 7, 2) := by decide +kernel
theorem dL_would_180 : decode cL_would 180 = .ok (.iconst 4, 1) := by decide +kernel
theorem dL_would_181 : decode cL_would 181 = .ok (.invokevirtual 19, 3) := by decide +kernel
theorem dL_would_184 : decode cL_would 184 = .ok (.iconst 1, 1) := by decide +kernel
theorem dL_would_185 : decode cL_would 185 = .ok (.if_icmp .ne 56, 3) := by decide +kernel
theorem dL_would_188 : decode cL_would 188 = .ok (.aload_n 0, 1) := by decide +kernel
theorem dL_would_189 : decode cL_would 189 = .ok (.iload_n 3, 1) := by decide +kernel
theorem dL_would_190 : decode cL_would 190 = .ok (.iconst 2, 1) := by decide +kernel
theorem dL_would_191 : decode cL_would 191 = .ok (.invokevirtual 42, 3) := by decide +kernel
theorem dL_would_194 : decode cL_would 194 = .ok (.bipush (-5), 2) := by decide +kernel
theorem dL_would_196 : decode cL_would 196 = .ok (.if_icmp .ne 45, 3) := by decide +kernel
theorem dL_would_199 : decode cL_would 199 = .ok (.aload_n 0, 1) := by decide +kernel
theorem dL_would_200 : decode cL_would 200 = .ok (.iload_n 3, 1) := by decide +kernel
theorem dL_would_201 : decode cL_would 201 = .ok (.iconst 1, 1) := by decide +kernel
theorem dL_would_202 : decode cL_would 202 = .ok (.iadd, 1) := by decide +kernel
theorem dL_would_203 : decode cL_would 203 = .ok (.iconst 1, 1) := by decide +kernel
theorem dL_would_204 : decode cL_would 204 = .ok (.invokevirtual 42, 3) := by decide +kernel
theorem dL_would_207 : decode cL_would 207 = .ok (.bipush (-5), 2) := by decide +kernel
theorem dL_would_209 : decode cL_would 209 = .ok (.if_icmp .ne 32, 3) := by decide +kernel
theorem dL_would_212 : decode cL_would 212 = .ok (.iload_n 3, 1) := by decide +kernel
theorem dL_would_213 : decode cL_would 213 = .ok (.ifCond .eq 24, 3) := by decide +kernel
theorem dL_would_216 : decode cL_would 216 = .ok (.aload_n 0, 1) := by decide +kernel
theorem dL_would_217 : decode cL_would 217 = .ok (.iconst 0, 1) := by decide +kernel
theorem dL_would_218 : decode cL_would 218 = .ok (.aload_n 0, 1) := by decide +kernel
theorem dL_would_219 : decode cL_would 219 = .ok (.iconst 0, 1) := by decide +kernel
theorem dL_would_220 : decode cL_would 220 = .ok (.iconst 2, 1) := by decide +kernel
theorem dL_would_221 : decode cL_would 221 = .ok (.invokevirtual 42, 3) := by decide +kernel
theorem dL_would_224 : decode cL_would 224 = .ok (.iconst 0, 1) := by decide +kernel
theorem dL_would_225 : decode cL_would 225 = .ok (.invokevirtual 23, 3) := by decide +kernel
theorem dL_would_228 : decode cL_would 228 = .ok (.aload_n 0, 1) := by decide +kernel
theorem dL_would_229 : decode cL_would 229 = .ok (.iconst 1, 1) := by decide +kernel
theorem dL_would_230 : decode cL_would 230 = .ok (.iconst 0, 1) := by decide +kernel
theorem dL_would_231 : decode cL_would 231 = .ok (.invokevirtual 42, 3) := by decide +kernel
theorem dL_would_234 : decode cL_would 234 = .ok (.if_icmp .ne 7, 3) := by decide +kernel
theorem dL_would_237 : decode cL_would 237 = .ok (.iconst 1, 1) := by decide +kernel
theorem dL_would_238 : decode cL_would 238 = .ok (.goto 4, 3) := by decide +kernel
theorem dL_would_241 : decode cL_would 241 = .ok (.iconst 0, 1) := by decide +kernel
theorem dL_would_242 : decode cL_would 242 = .ok (.istore 6, 2) := by decide +kernel
theorem dL_would_244 : decode cL_would 244 = .ok (.iload 5, 2) := by decide +kernel
theorem dL_would_246 : decode cL_would 246 = .ok (.iload_n 2, 1) := by decide +kernel
theorem dL_would_247 : decode cL_would 247 = .ok (.if_icmp .ne 26, 3) := by decide +kernel
theorem dL_would_250 : decode cL_would 250 = .ok (.iload 6, 2) := by decide +kernel
theorem dL_would_252 : decode cL_would 252 = .ok (.ifCond .eq 19, 3) := by decide +kernel
theorem dL_would_255 : decode cL_would 255 = .ok (.aload_n 0, 1) := by decide +kernel
theorem dL_would_256 : decode cL_would 256 = .ok (.iload 5, 2) := by decide +kernel
theorem dL_would_258 : decode cL_would 258 = .ok (.bipush 8, 2) := by decide +kernel
theorem dL_would_260 : decode cL_would 260 = .ok (.invokevirtual 19, 3) := by decide +kernel
theorem dL_would_263 : decode cL_would 263 = .ok (.iconst (-1), 1) := by decide +kernel
theorem dL_would_264 : decode cL_would 264 = .ok (.if_icmp .ne 7, 3) := by decide +kernel
theorem dL_would_267 : decode cL_would 267 = .ok (.iconst 1, 1) := by decide +kernel
theorem dL_would_268 : decode cL_would 268 = .ok (.goto 4, 3) := by decide +kernel
theorem dL_would_271 : decode cL_would 271 = .ok (.iconst 0, 1) := by decide +kernel
theorem dL_would_272 : decode cL_would 272 = .ok (.ireturn, 1) := by decide +kernel
theorem dL_would_273 : decode cL_would 273 = .ok (.aload_n 0, 1) := by decide +kernel
theorem dL_would_274 : decode cL_would 274 = .ok (.iload 5, 2) := by decide +kernel
theorem dL_would_276 : decode cL_would 276 = .ok (.bipush 8, 2) := by decide +kernel
theorem dL_would_278 : decode cL_would 278 = .ok (.invokevirtual 19, 3) := by decide +kernel
theorem dL_would_281 : decode cL_would 281 = .ok (.istore 7, 2) := by decide +kernel
theorem dL_would_283 : decode cL_would 283 = .ok (.iload 6, 2) := by decide +kernel
theorem dL_would_285 : decode cL_would 285 = .ok (.ifCond .eq 99, 3) := by decide +kernel
theorem dL_would_288 : decode cL_would 288 = .ok (.iload 7, 2) := by decide +kernel
theorem dL_would_290 : decode cL_would 290 = .ok (.ifCond .ne 7, 3) := by decide +kernel
theorem dL_would_293 : decode cL_would 293 = .ok (.iconst 1, 1) := by decide +kernel
theorem dL_would_294 : decode cL_would 294 = .ok (.goto 4, 3) := by decide +kernel
theorem dL_would_297 : decode cL_would 297 = .ok (.iconst 0, 1) := by decide +kernel
theorem dL_would_298 : decode cL_would 298 = .ok (.aload_n 0, 1) := by decide +kernel
theorem dL_would_299 : decode cL_would 299 = .ok (.iload 5, 2) := by decide +kernel
theorem dL_would_301 : decode cL_would 301 = .ok (.iconst 5, 1) := by decide +kernel
theorem dL_would_302 : decode cL_would 302 = .ok (.invokevirtual 19, 3) := by decide +kernel
theorem dL_would_305 : decode cL_would 305 = .ok (.iconst 1, 1) := by decide +kernel
theorem dL_would_306 : decode cL_would 306 = .ok (.if_icmp .ne 7, 3) := by decide +kernel
theorem dL_would_309 : decode cL_would 309 = .ok (.iconst 1, 1) := by decide +kernel
theorem dL_would_310 : decode cL_would 310 = .ok (.goto 4, 3) := by decide +kernel
theorem dL_would_313 : decode cL_would 313 = .ok (.iconst 0, 1) := by decide +kernel
theorem dL_would_314 : decode cL_would 314 = .ok (.if_icmp .ne 70, 3) := by decide +kernel
theorem dL_would_317 : decode cL_would 317 = .ok (.iload 7, 2) := by decide +kernel
theorem dL_would_319 : decode cL_would 319 = .ok (.ifCond .ne 7, 3) := by decide +kernel
theorem dL_would_322 : decode cL_would 322 = .ok (.iconst 1, 1) := by decide +kernel
theorem dL_would_323 : decode cL_would 323 = .ok (.goto 4, 3) := by decide +kernel
theorem dL_would_326 : decode cL_would 326 = .ok (.iconst 0, 1) := by decide +kernel
theorem dL_would_327 : decode cL_would 327 = .ok (.aload_n 0, 1) := by decide +kernel
theorem dL_would_328 : decode cL_would 328 = .ok (.iload 5, 2) := by decide +kernel
theorem dL_would_330 : decode cL_would 330 = .ok (.bipush 9, 2) := by decide +kernel
theorem dL_would_332 : decode cL_would 332 = .ok (.invokevirtual 19, 3) := by decide +kernel
theorem dL_would_335 : decode cL_would 335 = .ok (.bipush (-5), 2) := by decide +kernel
theorem dL_would_337 : decode cL_would 337 = .ok (.if_icmp .ne 7, 3) := by decide +kernel
theorem dL_would_340 : decode cL_would 340 = .ok (.iconst 1, 1) := by decide +kernel
theorem dL_would_341 : decode cL_would 341 = .ok (.goto 4, 3) := by decide +kernel
theorem dL_would_344 : decode cL_would 344 = .ok (.iconst 0, 1) := by decide +kernel
theorem dL_would_345 : decode cL_would 345 = .ok (.if_icmp .ne 39, 3) := by decide +kernel
theorem dL_would_348 : decode cL_would 348 = .ok (.iload 7, 2) := by decide +kernel
theorem dL_would_350 : decode cL_would 350 = .ok (.ifCond .gt 23, 3) := by decide +kernel
theorem dL_would_353 : decode cL_would 353 = .ok (.aload_n 0, 1) := by decide +kernel
theorem dL_would_354 : decode cL_would 354 = .ok (.iload 5, 2) := by decide +kernel
theorem dL_would_356 : decode cL_would 356 = .ok (.bipush 6, 2) := by decide +kernel
theorem dL_would_358 : decode cL_would 358 = .ok (.invokevirtual 19, 3) := by decide +kernel
theorem dL_would_361 : decode cL_would 361 = .ok (.aload_n 0, 1) := by decide +kernel
theorem dL_would_362 : decode cL_would 362 = .ok (.iload 5, 2) := by decide +kernel
theorem dL_would_364 : decode cL_would 364 = .ok (.bipush 7, 2) := by decide +kernel
theorem dL_would_366 : decode cL_would 366 = .ok (.invokevirtual 19, 3) := by decide +kernel
theorem dL_would_369 : decode cL_would 369 = .ok (.iadd, 1) := by decide +kernel
theorem dL_would_370 : decode cL_would 370 = .ok (.ifCond .ne 14, 3) := by decide +kernel
theorem dL_would_373 : decode cL_would 373 = .ok (.iload 7, 2) := by decide +kernel
theorem dL_would_375 : decode cL_would 375 = .ok (.iload 4, 2) := by decide +kernel
theorem dL_would_377 : decode cL_would 377 = .ok (.if_icmp .gt 7, 3) := by decide +kernel
theorem dL_would_380 : decode cL_would 380 = .ok (.iconst 1, 1) := by decide +kernel
theorem dL_would_381 : decode cL_would 381 = .ok (.goto 4, 3) := by decide +kernel
theorem dL_would_384 : decode cL_would 384 = .ok (.iconst 0, 1) := by decide +kernel
theorem dL_would_385 : decode cL_would 385 = .ok (.ireturn, 1) := by decide +kernel
theorem dL_letters_0 : decode cL_letters 0 = .ok (.iload_n 2, 1) := by decide +kernel
theorem dL_letters_1 : decode cL_letters 1 = .ok (.ifCond .eq 12, 3) := by decide +kernel
theorem dL_letters_4 : decode cL_letters 4 = .ok (.aload_n 0, 1) := by decide +kernel
theorem dL_letters_5 : decode cL_letters 5 = .ok (.iload_n 1, 1) := by decide +kernel
theorem dL_letters_6 : decode cL_letters 6 = .ok (.i2c, 1) := by decide +kernel
theorem dL_letters_7 : decode cL_letters 7 = .ok (.invokevirtual 45, 3) := by decide +kernel
theorem dL_letters_10 : decode cL_letters 10 = .ok (.ifCond .le 7, 3) := by decide +kernel
theorem dL_letters_13 : decode cL_letters 13 = .ok (.iconst 1, 1) := by decide +kernel
theorem dL_letters_14 : decode cL_letters 14 = .ok (.goto 4, 3) := by decide +kernel
theorem dL_letters_17 : decode cL_letters 17 = .ok (.iconst 0, 1) := by decide +kernel
theorem dL_letters_18 : decode cL_letters 18 = .ok (.istore_n 3, 1) := by decide +kernel
theorem dL_letters_19 : decode cL_letters 19 = .ok (.iconst 0, 1) := by decide +kernel
theorem dL_letters_20 : decode cL_letters 20 = .ok (.istore 4, 2) := by decide +kernel
theorem dL_letters_22 : decode cL_letters 22 = .ok (.iload 4, 2) := by decide +kernel
theorem dL_letters_24 : decode cL_letters 24 = .ok (.iconst 5, 1) := by decide +kernel
theorem dL_letters_25 : decode cL_letters 25 = .ok (.if_icmp .ge 41, 3) := by decide +kernel
theorem dL_letters_28 : decode cL_letters 28 = .ok (.iload_n 3, 1) := by decide +kernel
theorem dL_letters_29 : decode cL_letters 29 = .ok (.ifCond .eq 29, 3) := by decide +kernel
theorem dL_letters_32 : decode cL_letters 32 = .ok (.iload_n 2, 1) := by decide +kernel
theorem dL_letters_33 : decode cL_letters 33 = .ok (.iload 4, 2) := by decide +kernel
theorem dL_letters_35 : decode cL_letters 35 = .ok (.ishr, 1) := by decide +kernel
theorem dL_letters_36 : decode cL_letters 36 = .ok (.iconst 1, 1) := by decide +kernel
theorem dL_letters_37 : decode cL_letters 37 = .ok (.iand, 1) := by decide +kernel
theorem dL_letters_38 : decode cL_letters 38 = .ok (.ifCond .eq 16, 3) := by decide +kernel
theorem dL_letters_41 : decode cL_letters 41 = .ok (.aload_n 0, 1) := by decide +kernel
theorem dL_letters_42 : decode cL_letters 42 = .ok (.bipush 97, 2) := by decide +kernel
theorem dL_letters_44 : decode cL_letters 44 = .ok (.iload 4, 2) := by decide +kernel
theorem dL_letters_46 : decode cL_letters 46 = .ok (.iadd, 1) := by decide +kernel
theorem dL_letters_47 : decode cL_letters 47 = .ok (.i2c, 1) := by decide +kernel
theorem dL_letters_48 : decode cL_letters 48 = .ok (.invokevirtual 45, 3) := by decide +kernel
theorem dL_letters_51 : decode cL_letters 51 = .ok (.ifCond .le 7, 3) := by decide +kernel
theorem dL_letters_54 : decode cL_letters 54 = .ok (.iconst 1, 1) := by decide +kernel
theorem dL_letters_55 : decode cL_letters 55 = .ok (.goto 4, 3) := by decide +kernel
theorem dL_letters_58 : decode cL_letters 58 = .ok (.iconst 0, 1) := by decide +kernel
theorem dL_letters_59 : decode cL_letters 59 = .ok (.istore_n 3, 1) := by decide +kernel
theorem dL_letters_60 : decode cL_letters 60 = .ok (.iinc 4 1, 3) := by decide +kernel
theorem dL_letters_63 : decode cL_letters 63 = .ok (.goto (-41), 3) := by decide +kernel
theorem dL_letters_66 : decode cL_letters 66 = .ok (.iload_n 3, 1) := by decide +kernel
theorem dL_letters_67 : decode cL_letters 67 = .ok (.ireturn, 1) := by decide +kernel
theorem dL_number_0 : decode cL_number 0 = .ok (.iload_n 1, 1) := by decide +kernel
theorem dL_number_1 : decode cL_number 1 = .ok (.bipush 10, 2) := by decide +kernel
theorem dL_number_3 : decode cL_number 3 = .ok (.if_icmp .lt 18, 3) := by decide +kernel
theorem dL_number_6 : decode cL_number 6 = .ok (.aload_n 0, 1) := by decide +kernel
theorem dL_number_7 : decode cL_number 7 = .ok (.bipush 48, 2) := by decide +kernel
theorem dL_number_9 : decode cL_number 9 = .ok (.iload_n 1, 1) := by decide +kernel
theorem dL_number_10 : decode cL_number 10 = .ok (.bipush 10, 2) := by decide +kernel
theorem dL_number_12 : decode cL_number 12 = .ok (.idiv, 1) := by decide +kernel
theorem dL_number_13 : decode cL_number 13 = .ok (.iadd, 1) := by decide +kernel
theorem dL_number_14 : decode cL_number 14 = .ok (.i2c, 1) := by decide +kernel
theorem dL_number_15 : decode cL_number 15 = .ok (.invokevirtual 45, 3) := by decide +kernel
theorem dL_number_18 : decode cL_number 18 = .ok (.ifCond .le 22, 3) := by decide +kernel
theorem dL_number_21 : decode cL_number 21 = .ok (.aload_n 0, 1) := by decide +kernel
theorem dL_number_22 : decode cL_number 22 = .ok (.bipush 48, 2) := by decide +kernel
theorem dL_number_24 : decode cL_number 24 = .ok (.iload_n 1, 1) := by decide +kernel
theorem dL_number_25 : decode cL_number 25 = .ok (.bipush 10, 2) := by decide +kernel
theorem dL_number_27 : decode cL_number 27 = .ok (.irem, 1) := by decide +kernel
theorem dL_number_28 : decode cL_number 28 = .ok (.iadd, 1) := by decide +kernel
theorem dL_number_29 : decode cL_number 29 = .ok (.i2c, 1) := by decide +kernel
theorem dL_number_30 : decode cL_number 30 = .ok (.invokevirtual 45, 3) := by decide +kernel
theorem dL_number_33 : decode cL_number 33 = .ok (.ifCond .le 7, 3) := by decide +kernel
theorem dL_number_36 : decode cL_number 36 = .ok (.iconst 1, 1) := by decide +kernel
theorem dL_number_37 : decode cL_number 37 = .ok (.goto 4, 3) := by decide +kernel
theorem dL_number_40 : decode cL_number 40 = .ok (.iconst 0, 1) := by decide +kernel
theorem dL_number_41 : decode cL_number 41 = .ok (.ireturn, 1) := by decide +kernel
theorem dL_types_0 : decode cL_types 0 = .ok (.iload_n 1, 1) := by decide +kernel
theorem dL_types_1 : decode cL_types 1 = .ok (.iconst 4, 1) := by decide +kernel
theorem dL_types_2 : decode cL_types 2 = .ok (.invokestatic 35, 3) := by decide +kernel
theorem dL_types_5 : decode cL_types 5 = .ok (.istore_n 2, 1) := by decide +kernel
theorem dL_types_6 : decode cL_types 6 = .ok (.aload_n 0, 1) := by decide +kernel
theorem dL_types_7 : decode cL_types 7 = .ok (.iconst 0, 1) := by decide +kernel
theorem dL_types_8 : decode cL_types 8 = .ok (.invokevirtual 11, 3) := by decide +kernel
theorem dL_types_11 : decode cL_types 11 = .ok (.iload_n 1, 1) := by decide +kernel
theorem dL_types_12 : decode cL_types 12 = .ok (.bipush 20, 2) := by decide +kernel
theorem dL_types_14 : decode cL_types 14 = .ok (.ishr, 1) := by decide +kernel
theorem dL_types_15 : decode cL_types 15 = .ok (.iconst 5, 1) := by decide +kernel
theorem dL_types_16 : decode cL_types 16 = .ok (.invokestatic 35, 3) := by decide +kernel
theorem dL_types_19 : decode cL_types 19 = .ok (.ifCond .ne 7, 3) := by decide +kernel
theorem dL_types_22 : decode cL_types 22 = .ok (.iconst 1, 1) := by decide +kernel
theorem dL_types_23 : decode cL_types 23 = .ok (.goto 4, 3) := by decide +kernel
theorem dL_types_26 : decode cL_types 26 = .ok (.iconst 0, 1) := by decide +kernel
theorem dL_types_27 : decode cL_types 27 = .ok (.iadd, 1) := by decide +kernel
theorem dL_types_28 : decode cL_types 28 = .ok (.istore_n 3, 1) := by decide +kernel
theorem dL_types_29 : decode cL_types 29 = .ok (.aload_n 0, 1) := by decide +kernel
theorem dL_types_30 : decode cL_types 30 = .ok (.invokevirtual 49, 3) := by decide +kernel
theorem dL_types_33 : decode cL_types 33 = .ok (.ifCond .lt 7, 3) := by decide +kernel
theorem dL_types_36 : decode cL_types 36 = .ok (.iconst 1, 1) := by decide +kernel
theorem dL_types_37 : decode cL_types 37 = .ok (.goto 4, 3) := by decide +kernel
theorem dL_types_40 : decode cL_types 40 = .ok (.iconst 0, 1) := by decide +kernel
theorem dL_types_41 : decode cL_types 41 = .ok (.istore 4, 2) := by decide +kernel
theorem dL_types_43 : decode cL_types 43 = .ok (.iconst 0, 1) := by decide +kernel
theorem dL_types_44 : decode cL_types 44 = .ok (.istore 5, 2) := by decide +kernel
theorem dL_types_46 : decode cL_types 46 = .ok (.iload 5, 2) := by decide +kernel
theorem dL_types_48 : decode cL_types 48 = .ok (.iload_n 2, 1) := by decide +kernel
theorem dL_types_49 : decode cL_types 49 = .ok (.if_icmp .ge 172, 3) := by decide +kernel
theorem dL_types_52 : decode cL_types 52 = .ok (.iload_n 3, 1) := by decide +kernel
theorem dL_types_53 : decode cL_types 53 = .ok (.ifCond .le 168, 3) := by decide +kernel
theorem dL_types_56 : decode cL_types 56 = .ok (.iload_n 1, 1) := by decide +kernel
theorem dL_types_57 : decode cL_types 57 = .ok (.iconst 2, 1) := by decide +kernel
theorem dL_types_58 : decode cL_types 58 = .ok (.iconst 5, 1) := by decide +kernel
theorem dL_types_59 : decode cL_types 59 = .ok (.iload 5, 2) := by decide +kernel
theorem dL_types_61 : decode cL_types 61 = .ok (.imul, 1) := by decide +kernel
theorem dL_types_62 : decode cL_types 62 = .ok (.iadd, 1) := by decide +kernel
theorem dL_types_63 : decode cL_types 63 = .ok (.ishr, 1) := by decide +kernel
theorem dL_types_64 : decode cL_types 64 = .ok (.istore 6, 2) := by decide +kernel
theorem dL_types_66 : decode cL_types 66 = .ok (.iload 4, 2) := by decide +kernel
theorem dL_types_68 : decode cL_types 68 = .ok (.ifCond .eq 144, 3) := by decide +kernel
theorem dL_types_71 : decode cL_types 71 = .ok (.iload 5, 2) := by decide +kernel
theorem dL_types_73 : decode cL_types 73 = .ok (.ifCond .eq 12, 3) := by decide +kernel
theorem dL_types_76 : decode cL_types 76 = .ok (.aload_n 0, 1) := by decide +kernel
theorem dL_types_77 : decode cL_types 77 = .ok (.bipush 59, 2) := by decide +kernel
theorem dL_types_79 : decode cL_types 79 = .ok (.invokevirtual 45, 3) := by decide +kernel
theorem dL_types_82 : decode cL_types 82 = .ok (.ifCond .le 130, 3) := by decide +kernel
theorem dL_types_85 : decode cL_types 85 = .ok (.aload_n 0, 1) := by decide +kernel
theorem dL_types_86 : decode cL_types 86 = .ok (.iload 6, 2) := by decide +kernel
theorem dL_types_88 : decode cL_types 88 = .ok (.iload_n 3, 1) := by decide +kernel
theorem dL_types_89 : decode cL_types 89 = .ok (.invokestatic 35, 3) := by decide +kernel
theorem dL_types_92 : decode cL_types 92 = .ok (.invokestatic 52, 3) := by decide +kernel
theorem dL_types_95 : decode cL_types 95 = .ok (.ifCond .eq 117, 3) := by decide +kernel
theorem dL_types_98 : decode cL_types 98 = .ok (.aload_n 0, 1) := by decide +kernel
theorem dL_types_99 : decode cL_types 99 = .ok (.iload_n 1, 1) := by decide +kernel
theorem dL_types_100 : decode cL_types 100 = .ok (.bipush 23, 2) := by decide +kernel
theorem dL_types_102 : decode cL_types 102 = .ok (.ishr, 1) := by decide +kernel
theorem dL_types_103 : decode cL_types 103 = .ok (.bipush 11, 2) := by decide +kernel
theorem dL_types_105 : decode cL_types 105 = .ok (.invokestatic 35, 3) := by decide +kernel
theorem dL_types_108 : decode cL_types 108 = .ok (.ifCond .ne 8, 3) := by decide +kernel
theorem dL_types_111 : decode cL_types 111 = .ok (.bipush 61, 2) := by decide +kernel
theorem dL_types_113 : decode cL_types 113 = .ok (.goto 5, 3) := by decide +kernel
theorem dL_types_116 : decode cL_types 116 = .ok (.bipush 62, 2) := by decide +kernel
theorem dL_types_118 : decode cL_types 118 = .ok (.invokevirtual 45, 3) := by decide +kernel
theorem dL_types_121 : decode cL_types 121 = .ok (.ifCond .le 91, 3) := by decide +kernel
theorem dL_types_124 : decode cL_types 124 = .ok (.aload_n 0, 1) := by decide +kernel
theorem dL_types_125 : decode cL_types 125 = .ok (.iload 6, 2) := by decide +kernel
theorem dL_types_127 : decode cL_types 127 = .ok (.iconst 3, 1) := by decide +kernel
theorem dL_types_128 : decode cL_types 128 = .ok (.ishr, 1) := by decide +kernel
theorem dL_types_129 : decode cL_types 129 = .ok (.iload_n 3, 1) := by decide +kernel
theorem dL_types_130 : decode cL_types 130 = .ok (.invokestatic 35, 3) := by decide +kernel
theorem dL_types_133 : decode cL_types 133 = .ok (.invokestatic 52, 3) := by decide +kernel
theorem dL_types_136 : decode cL_types 136 = .ok (.ifCond .eq 76, 3) := by decide +kernel
theorem dL_types_139 : decode cL_types 139 = .ok (.aload_n 0, 1) := by decide +kernel
theorem dL_types_140 : decode cL_types 140 = .ok (.bipush 43, 2) := by decide +kernel
theorem dL_types_142 : decode cL_types 142 = .ok (.iload 6, 2) := by decide +kernel
theorem dL_types_144 : decode cL_types 144 = .ok (.iconst 5, 1) := by decide +kernel
theorem dL_types_145 : decode cL_types 145 = .ok (.ishr, 1) := by decide +kernel
theorem dL_types_146 : decode cL_types 146 = .ok (.iconst 3, 1) := by decide +kernel
theorem dL_types_147 : decode cL_types 147 = .ok (.invokestatic 35, 3) := by decide +kernel
theorem dL_types_150 : decode cL_types 150 = .ok (.ifCond .ne 16, 3) := by decide +kernel
theorem dL_types_153 : decode cL_types 153 = .ok (.iload 6, 2) := by decide +kernel
theorem dL_types_155 : decode cL_types 155 = .ok (.bipush 6, 2) := by decide +kernel
theorem dL_types_157 : decode cL_types 157 = .ok (.ishr, 1) := by decide +kernel
theorem dL_types_158 : decode cL_types 158 = .ok (.bipush 32, 2) := by decide +kernel
theorem dL_types_160 : decode cL_types 160 = .ok (.invokestatic 35, 3) := by decide +kernel
theorem dL_types_163 : decode cL_types 163 = .ok (.goto 4, 3) := by decide +kernel
theorem dL_types_166 : decode cL_types 166 = .ok (.iconst 0, 1) := by decide +kernel
theorem dL_types_167 : decode cL_types 167 = .ok (.invokestatic 56, 3) := by decide +kernel
theorem dL_types_170 : decode cL_types 170 = .ok (.ifCond .eq 42, 3) := by decide +kernel
theorem dL_types_173 : decode cL_types 173 = .ok (.aload_n 0, 1) := by decide +kernel
theorem dL_types_174 : decode cL_types 174 = .ok (.bipush 45, 2) := by decide +kernel
theorem dL_types_176 : decode cL_types 176 = .ok (.iload 6, 2) := by decide +kernel
theorem dL_types_178 : decode cL_types 178 = .ok (.bipush 7, 2) := by decide +kernel
theorem dL_types_180 : decode cL_types 180 = .ok (.ishr, 1) := by decide +kernel
theorem dL_types_181 : decode cL_types 181 = .ok (.iconst 3, 1) := by decide +kernel
theorem dL_types_182 : decode cL_types 182 = .ok (.invokestatic 35, 3) := by decide +kernel
theorem dL_types_185 : decode cL_types 185 = .ok (.ifCond .ne 16, 3) := by decide +kernel
theorem dL_types_188 : decode cL_types 188 = .ok (.iload 6, 2) := by decide +kernel
theorem dL_types_190 : decode cL_types 190 = .ok (.bipush 8, 2) := by decide +kernel
theorem dL_types_192 : decode cL_types 192 = .ok (.ishr, 1) := by decide +kernel
theorem dL_types_193 : decode cL_types 193 = .ok (.bipush 32, 2) := by decide +kernel
theorem dL_types_195 : decode cL_types 195 = .ok (.invokestatic 35, 3) := by decide +kernel
theorem dL_types_198 : decode cL_types 198 = .ok (.goto 4, 3) := by decide +kernel
theorem dL_types_201 : decode cL_types 201 = .ok (.iconst 0, 1) := by decide +kernel
theorem dL_types_202 : decode cL_types 202 = .ok (.invokestatic 56, 3) := by decide +kernel
theorem dL_types_205 : decode cL_types 205 = .ok (.ifCond .eq 7, 3) := by decide +kernel
theorem dL_types_208 : decode cL_types 208 = .ok (.iconst 1, 1) := by decide +kernel
theorem dL_types_209 : decode cL_types 209 = .ok (.goto 4, 3) := by decide +kernel
theorem dL_types_212 : decode cL_types 212 = .ok (.iconst 0, 1) := by decide +kernel
theorem dL_types_213 : decode cL_types 213 = .ok (.istore 4, 2) := by decide +kernel
theorem dL_types_215 : decode cL_types 215 = .ok (.iinc 5 1, 3) := by decide +kernel
theorem dL_types_218 : decode cL_types 218 = .ok (.goto (-172), 3) := by decide +kernel
theorem dL_types_221 : decode cL_types 221 = .ok (.iload 4, 2) := by decide +kernel
theorem dL_types_223 : decode cL_types 223 = .ok (.ireturn, 1) := by decide +kernel
theorem dL_acts_0 : decode cL_acts 0 = .ok (.iload_n 1, 1) := by decide +kernel
theorem dL_acts_1 : decode cL_acts 1 = .ok (.bipush 20, 2) := by decide +kernel
theorem dL_acts_3 : decode cL_acts 3 = .ok (.invokestatic 35, 3) := by decide +kernel
theorem dL_acts_6 : decode cL_acts 6 = .ok (.istore_n 3, 1) := by decide +kernel
theorem dL_acts_7 : decode cL_acts 7 = .ok (.aload_n 0, 1) := by decide +kernel
theorem dL_acts_8 : decode cL_acts 8 = .ok (.iconst 0, 1) := by decide +kernel
theorem dL_acts_9 : decode cL_acts 9 = .ok (.invokevirtual 11, 3) := by decide +kernel
theorem dL_acts_12 : decode cL_acts 12 = .ok (.istore 4, 2) := by decide +kernel
theorem dL_acts_14 : decode cL_acts 14 = .ok (.iload_n 2, 1) := by decide +kernel
theorem dL_acts_15 : decode cL_acts 15 = .ok (.iload 4, 2) := by decide +kernel
theorem dL_acts_17 : decode cL_acts 17 = .ok (.iconst 1, 1) := by decide +kernel
theorem dL_acts_18 : decode cL_acts 18 = .ok (.iadd, 1) := by decide +kernel
theorem dL_acts_19 : decode cL_acts 19 = .ok (.invokestatic 35, 3) := by decide +kernel
theorem dL_acts_22 : decode cL_acts 22 = .ok (.istore 5, 2) := by decide +kernel
theorem dL_acts_24 : decode cL_acts 24 = .ok (.iload 5, 2) := by decide +kernel
theorem dL_acts_26 : decode cL_acts 26 = .ok (.iload 4, 2) := by decide +kernel
theorem dL_acts_28 : decode cL_acts 28 = .ok (.if_icmp .ne 7, 3) := by decide +kernel
theorem dL_acts_31 : decode cL_acts 31 = .ok (.iconst 1, 1) := by decide +kernel
theorem dL_acts_32 : decode cL_acts 32 = .ok (.goto 4, 3) := by decide +kernel
theorem dL_acts_35 : decode cL_acts 35 = .ok (.iconst 0, 1) := by decide +kernel
theorem dL_acts_36 : decode cL_acts 36 = .ok (.istore 6, 2) := by decide +kernel
theorem dL_acts_38 : decode cL_acts 38 = .ok (.iload 6, 2) := by decide +kernel
theorem dL_acts_40 : decode cL_acts 40 = .ok (.ifCond .eq 7, 3) := by decide +kernel
theorem dL_acts_43 : decode cL_acts 43 = .ok (.iconst 0, 1) := by decide +kernel
theorem dL_acts_44 : decode cL_acts 44 = .ok (.goto 10, 3) := by decide +kernel
theorem dL_acts_47 : decode cL_acts 47 = .ok (.aload_n 0, 1) := by decide +kernel
theorem dL_acts_48 : decode cL_acts 48 = .ok (.iload 5, 2) := by decide +kernel
theorem dL_acts_50 : decode cL_acts 50 = .ok (.iconst 0, 1) := by decide +kernel
theorem dL_acts_51 : decode cL_acts 51 = .ok (.invokevirtual 19, 3) := by decide +kernel
theorem dL_acts_54 : decode cL_acts 54 = .ok (.istore 7, 2) := by decide +kernel
theorem dL_acts_56 : decode cL_acts 56 = .ok (.iload_n 3, 1) := by decide +kernel
theorem dL_acts_57 : decode cL_acts 57 = .ok (.iconst 3, 1) := by decide +kernel
theorem dL_acts_58 : decode cL_acts 58 = .ok (.if_icmp .ge 191, 3) := by decide +kernel
theorem dL_acts_61 : decode cL_acts 61 = .ok (.iload_n 2, 1) := by decide +kernel
theorem dL_acts_62 : decode cL_acts 62 = .ok (.sipush 203, 3) := by decide +kernel
theorem dL_acts_65 : decode cL_acts 65 = .ok (.invokestatic 35, 3) := by decide +kernel
theorem dL_acts_68 : decode cL_acts 68 = .ok (.bipush 101, 2) := by decide +kernel
theorem dL_acts_70 : decode cL_acts 70 = .ok (.isub, 1) := by decide +kernel
theorem dL_acts_71 : decode cL_acts 71 = .ok (.istore 8, 2) := by decide +kernel
theorem dL_acts_73 : decode cL_acts 73 = .ok (.iload_n 2, 1) := by decide +kernel
theorem dL_acts_74 : decode cL_acts 74 = .ok (.bipush 8, 2) := by decide +kernel
theorem dL_acts_76 : decode cL_acts 76 = .ok (.ishr, 1) := by decide +kernel
theorem dL_acts_77 : decode cL_acts 77 = .ok (.bipush 34, 2) := by decide +kernel
theorem dL_acts_79 : decode cL_acts 79 = .ok (.invokestatic 35, 3) := by decide +kernel
theorem dL_acts_82 : decode cL_acts 82 = .ok (.iconst 1, 1) := by decide +kernel
theorem dL_acts_83 : decode cL_acts 83 = .ok (.isub, 1) := by decide +kernel
theorem dL_acts_84 : decode cL_acts 84 = .ok (.istore 9, 2) := by decide +kernel
theorem dL_acts_86 : decode cL_acts 86 = .ok (.iload_n 2, 1) := by decide +kernel
theorem dL_acts_87 : decode cL_acts 87 = .ok (.bipush 11, 2) := by decide +kernel
theorem dL_acts_89 : decode cL_acts 89 = .ok (.ishr, 1) := by decide +kernel
theorem dL_acts_90 : decode cL_acts 90 = .ok (.iconst 3, 1) := by decide +kernel
theorem dL_acts_91 : decode cL_acts 91 = .ok (.invokestatic 35, 3) := by decide +kernel
theorem dL_acts_94 : decode cL_acts 94 = .ok (.ifCond .ne 15, 3) := by decide +kernel
theorem dL_acts_97 : decode cL_acts 97 = .ok (.iload_n 2, 1) := by decide +kernel
theorem dL_acts_98 : decode cL_acts 98 = .ok (.bipush 13, 2) := by decide +kernel
theorem dL_acts_100 : decode cL_acts 100 = .ok (.ishr, 1) := by decide +kernel
theorem dL_acts_101 : decode cL_acts 101 = .ok (.bipush 33, 2) := by decide +kernel
theorem dL_acts_103 : decode cL_acts 103 = .ok (.invokestatic 35, 3) := by decide +kernel
theorem dL_acts_106 : decode cL_acts 106 = .ok (.goto 4, 3) := by decide +kernel
theorem dL_acts_109 : decode cL_acts 109 = .ok (.iconst 0, 1) := by decide +kernel
theorem dL_acts_110 : decode cL_acts 110 = .ok (.istore 10, 2) := by decide +kernel
theorem dL_acts_112 : decode cL_acts 112 = .ok (.iload 8, 2) := by decide +kernel
theorem dL_acts_114 : decode cL_acts 114 = .ok (.bipush (-99), 2) := by decide +kernel
theorem dL_acts_116 : decode cL_acts 116 = .ok (.if_icmp .lt 29, 3) := by decide +kernel
theorem dL_acts_119 : decode cL_acts 119 = .ok (.iload 8, 2) := by decide +kernel
theorem dL_acts_121 : decode cL_acts 121 = .ok (.bipush 99, 2) := by decide +kernel
theorem dL_acts_123 : decode cL_acts 123 = .ok (.if_icmp .gt 22, 3) := by decide +kernel
theorem dL_acts_126 : decode cL_acts 126 = .ok (.iload 9, 2) := by decide +kernel
theorem dL_acts_128 : decode cL_acts 128 = .ok (.ifCond .lt 17, 3) := by decide +kernel
theorem dL_acts_131 : decode cL_acts 131 = .ok (.iload 9, 2) := by decide +kernel
theorem dL_acts_133 : decode cL_acts 133 = .ok (.bipush 31, 2) := by decide +kernel
theorem dL_acts_135 : decode cL_acts 135 = .ok (.if_icmp .gt 10, 3) := by decide +kernel
theorem dL_acts_138 : decode cL_acts 138 = .ok (.iload 10, 2) := by decide +kernel
theorem dL_acts_140 : decode cL_acts 140 = .ok (.bipush 31, 2) := by decide +kernel
theorem dL_acts_142 : decode cL_acts 142 = .ok (.if_icmp .le 7, 3) := by decide +kernel
theorem dL_acts_145 : decode cL_acts 145 = .ok (.iconst 1, 1) := by decide +kernel
theorem dL_acts_146 : decode cL_acts 146 = .ok (.goto 4, 3) := by decide +kernel
theorem dL_acts_149 : decode cL_acts 149 = .ok (.iconst 0, 1) := by decide +kernel
theorem dL_acts_150 : decode cL_acts 150 = .ok (.istore 11, 2) := by decide +kernel
theorem dL_acts_152 : decode cL_acts 152 = .ok (.aload_n 0, 1) := by decide +kernel
theorem dL_acts_153 : decode cL_acts 153 = .ok (.iload 8, 2) := by decide +kernel
theorem dL_acts_155 : decode cL_acts 155 = .ok (.iload 9, 2) := by decide +kernel
theorem dL_acts_157 : decode cL_acts 157 = .ok (.iload 10, 2) := by decide +kernel
theorem dL_acts_159 : decode cL_acts 159 = .ok (.invokevirtual 60, 3) := by decide +kernel
theorem dL_acts_162 : decode cL_acts 162 = .ok (.istore 12, 2) := by decide +kernel
theorem dL_acts_164 : decode cL_acts 164 = .ok (.iload 12, 2) := by decide +kernel
theorem dL_acts_166 : decode cL_acts 166 = .ok (.iload 11, 2) := by decide +kernel
theorem dL_acts_168 : decode cL_acts 168 = .ok (.ifCond .eq 8, 3) := by decide +kernel
theorem dL_acts_171 : decode cL_acts 171 = .ok (.bipush (-2), 2) := by decide +kernel
theorem dL_acts_173 : decode cL_acts 173 = .ok (.goto 17, 3) := by decide +kernel
theorem dL_acts_176 : decode cL_acts 176 = .ok (.iload 4, 2) := by decide +kernel
theorem dL_acts_178 : decode cL_acts 178 = .ok (.bipush 32, 2) := by decide +kernel
theorem dL_acts_180 : decode cL_acts 180 = .ok (.if_icmp .ne 8, 3) := by decide +kernel
theorem dL_acts_183 : decode cL_acts 183 = .ok (.bipush (-3), 2) := by decide +kernel
theorem dL_acts_185 : decode cL_acts 185 = .ok (.goto 5, 3) := by decide +kernel
theorem dL_acts_188 : decode cL_acts 188 = .ok (.iload 4, 2) := by decide +kernel
theorem dL_acts_190 : decode cL_acts 190 = .ok (.if_icmp .ne 57, 3) := by decide +kernel
theorem dL_acts_193 : decode cL_acts 193 = .ok (.iload 12, 2) := by decide +kernel
theorem dL_acts_195 : decode cL_acts 195 = .ok (.ifCond .lt 48, 3) := by decide +kernel
theorem dL_acts_198 : decode cL_acts 198 = .ok (.aload_n 0, 1) := by decide +kernel
theorem dL_acts_199 : decode cL_acts 199 = .ok (.iload 12, 2) := by decide +kernel
theorem dL_acts_201 : decode cL_acts 201 = .ok (.iconst 0, 1) := by decide +kernel
theorem dL_acts_202 : decode cL_acts 202 = .ok (.invokevirtual 19, 3) := by decide +kernel
theorem dL_acts_205 : decode cL_acts 205 = .ok (.ifCond .ne 42, 3) := by decide +kernel
theorem dL_acts_208 : decode cL_acts 208 = .ok (.aload_n 0, 1) := by decide +kernel
theorem dL_acts_209 : decode cL_acts 209 = .ok (.iload 12, 2) := by decide +kernel
theorem dL_acts_211 : decode cL_acts 211 = .ok (.iconst 1, 1) := by decide +kernel
theorem dL_acts_212 : decode cL_acts 212 = .ok (.invokevirtual 19, 3) := by decide +kernel
theorem dL_acts_215 : decode cL_acts 215 = .ok (.iload 9, 2) := by decide +kernel
theorem dL_acts_217 : decode cL_acts 217 = .ok (.if_icmp .ne 30, 3) := by decide +kernel
theorem dL_acts_220 : decode cL_acts 220 = .ok (.aload_n 0, 1) := by decide +kernel
theorem dL_acts_221 : decode cL_acts 221 = .ok (.iload 12, 2) := by decide +kernel
theorem dL_acts_223 : decode cL_acts 223 = .ok (.iconst 2, 1) := by decide +kernel
theorem dL_acts_224 : decode cL_acts 224 = .ok (.invokevirtual 19, 3) := by decide +kernel
theorem dL_acts_227 : decode cL_acts 227 = .ok (.iload 10, 2) := by decide +kernel
theorem dL_acts_229 : decode cL_acts 229 = .ok (.if_icmp .ne 18, 3) := by decide +kernel
theorem dL_acts_232 : decode cL_acts 232 = .ok (.aload_n 0, 1) := by decide +kernel
theorem dL_acts_233 : decode cL_acts 233 = .ok (.iload 12, 2) := by decide +kernel
theorem dL_acts_235 : decode cL_acts 235 = .ok (.bipush 10, 2) := by decide +kernel
theorem dL_acts_237 : decode cL_acts 237 = .ok (.invokevirtual 19, 3) := by decide +kernel
theorem dL_acts_240 : decode cL_acts 240 = .ok (.ifCond .ne 7, 3) := by decide +kernel
theorem dL_acts_243 : decode cL_acts 243 = .ok (.iconst 1, 1) := by decide +kernel
theorem dL_acts_244 : decode cL_acts 244 = .ok (.goto 4, 3) := by decide +kernel
theorem dL_acts_247 : decode cL_acts 247 = .ok (.iconst 0, 1) := by decide +kernel
theorem dL_acts_248 : decode cL_acts 248 = .ok (.ireturn, 1) := by decide +kernel
theorem dL_acts_249 : decode cL_acts 249 = .ok (.iload_n 3, 1) := by decide +kernel
theorem dL_acts_250 : decode cL_acts 250 = .ok (.bipush 7, 2) := by decide +kernel
theorem dL_acts_252 : decode cL_acts 252 = .ok (.if_icmp .ge 194, 3) := by decide +kernel
theorem dL_acts_255 : decode cL_acts 255 = .ok (.iload_n 2, 1) := by decide +kernel
theorem dL_acts_256 : decode cL_acts 256 = .ok (.iconst 4, 1) := by decide +kernel
theorem dL_acts_257 : decode cL_acts 257 = .ok (.ishr, 1) := by decide +kernel
theorem dL_acts_258 : decode cL_acts 258 = .ok (.iload 4, 2) := by decide +kernel
theorem dL_acts_260 : decode cL_acts 260 = .ok (.iconst 1, 1) := by decide +kernel
theorem dL_acts_261 : decode cL_acts 261 = .ok (.iadd, 1) := by decide +kernel
theorem dL_acts_262 : decode cL_acts 262 = .ok (.invokestatic 35, 3) := by decide +kernel
theorem dL_acts_265 : decode cL_acts 265 = .ok (.istore 8, 2) := by decide +kernel
theorem dL_acts_267 : decode cL_acts 267 = .ok (.iload_n 2, 1) := by decide +kernel
theorem dL_acts_268 : decode cL_acts 268 = .ok (.bipush 7, 2) := by decide +kernel
theorem dL_acts_270 : decode cL_acts 270 = .ok (.ishr, 1) := by decide +kernel
theorem dL_acts_271 : decode cL_acts 271 = .ok (.iconst 3, 1) := by decide +kernel
theorem dL_acts_272 : decode cL_acts 272 = .ok (.invokestatic 35, 3) := by decide +kernel
theorem dL_acts_275 : decode cL_acts 275 = .ok (.ifCond .ne 17, 3) := by decide +kernel
theorem dL_acts_278 : decode cL_acts 278 = .ok (.iload_n 2, 1) := by decide +kernel
theorem dL_acts_279 : decode cL_acts 279 = .ok (.bipush 9, 2) := by decide +kernel
theorem dL_acts_281 : decode cL_acts 281 = .ok (.ishr, 1) := by decide +kernel
theorem dL_acts_282 : decode cL_acts 282 = .ok (.bipush 34, 2) := by decide +kernel
theorem dL_acts_284 : decode cL_acts 284 = .ok (.invokestatic 35, 3) := by decide +kernel
theorem dL_acts_287 : decode cL_acts 287 = .ok (.iconst 1, 1) := by decide +kernel
theorem dL_acts_288 : decode cL_acts 288 = .ok (.isub, 1) := by decide +kernel
theorem dL_acts_289 : decode cL_acts 289 = .ok (.goto 4, 3) := by decide +kernel
theorem dL_acts_292 : decode cL_acts 292 = .ok (.iconst 0, 1) := by decide +kernel
theorem dL_acts_293 : decode cL_acts 293 = .ok (.istore 9, 2) := by decide +kernel
theorem dL_acts_295 : decode cL_acts 295 = .ok (.iload_n 2, 1) := by decide +kernel
theorem dL_acts_296 : decode cL_acts 296 = .ok (.bipush 8, 2) := by decide +kernel
theorem dL_acts_298 : decode cL_acts 298 = .ok (.ishr, 1) := by decide +kernel
theorem dL_acts_299 : decode cL_acts 299 = .ok (.iconst 3, 1) := by decide +kernel
theorem dL_acts_300 : decode cL_acts 300 = .ok (.invokestatic 35, 3) := by decide +kernel
theorem dL_acts_303 : decode cL_acts 303 = .ok (.ifCond .ne 15, 3) := by decide +kernel
theorem dL_acts_306 : decode cL_acts 306 = .ok (.iload_n 2, 1) := by decide +kernel
theorem dL_acts_307 : decode cL_acts 307 = .ok (.bipush 10, 2) := by decide +kernel
theorem dL_acts_309 : decode cL_acts 309 = .ok (.ishr, 1) := by decide +kernel
theorem dL_acts_310 : decode cL_acts 310 = .ok (.bipush 33, 2) := by decide +kernel
theorem dL_acts_312 : decode cL_acts 312 = .ok (.invokestatic 35, 3) := by decide +kernel
theorem dL_acts_315 : decode cL_acts 315 = .ok (.goto 4, 3) := by decide +kernel
theorem dL_acts_318 : decode cL_acts 318 = .ok (.iconst 0, 1) := by decide +kernel
theorem dL_acts_319 : decode cL_acts 319 = .ok (.istore 10, 2) := by decide +kernel
theorem dL_acts_321 : decode cL_acts 321 = .ok (.aload_n 0, 1) := by decide +kernel
theorem dL_acts_322 : decode cL_acts 322 = .ok (.iload 5, 2) := by decide +kernel
theorem dL_acts_324 : decode cL_acts 324 = .ok (.iload 8, 2) := by decide +kernel
theorem dL_acts_326 : decode cL_acts 326 = .ok (.iload 9, 2) := by decide +kernel
theorem dL_acts_328 : decode cL_acts 328 = .ok (.iload 10, 2) := by decide +kernel
theorem dL_acts_330 : decode cL_acts 330 = .ok (.invokevirtual 63, 3) := by decide +kernel
theorem dL_acts_333 : decode cL_acts 333 = .ok (.istore 11, 2) := by decide +kernel
theorem dL_acts_335 : decode cL_acts 335 = .ok (.iload 11, 2) := by decide +kernel
theorem dL_acts_337 : decode cL_acts 337 = .ok (.iload 6, 2) := by decide +kernel
theorem dL_acts_339 : decode cL_acts 339 = .ok (.ifCond .ne 10, 3) := by decide +kernel
theorem dL_acts_342 : decode cL_acts 342 = .ok (.iload 8, 2) := by decide +kernel
theorem dL_acts_344 : decode cL_acts 344 = .ok (.iload 4, 2) := by decide +kernel
theorem dL_acts_346 : decode cL_acts 346 = .ok (.if_icmp .ne 7, 3) := by decide +kernel
theorem dL_acts_349 : decode cL_acts 349 = .ok (.iconst (-1), 1) := by decide +kernel
theorem dL_acts_350 : decode cL_acts 350 = .ok (.goto 40, 3) := by decide +kernel
theorem dL_acts_353 : decode cL_acts 353 = .ok (.iload 9, 2) := by decide +kernel
theorem dL_acts_355 : decode cL_acts 355 = .ok (.ifCond .lt 17, 3) := by decide +kernel
theorem dL_acts_358 : decode cL_acts 358 = .ok (.iload 9, 2) := by decide +kernel
theorem dL_acts_360 : decode cL_acts 360 = .ok (.bipush 31, 2) := by decide +kernel
theorem dL_acts_362 : decode cL_acts 362 = .ok (.if_icmp .gt 10, 3) := by decide +kernel
theorem dL_acts_365 : decode cL_acts 365 = .ok (.iload 10, 2) := by decide +kernel
theorem dL_acts_367 : decode cL_acts 367 = .ok (.bipush 31, 2) := by decide +kernel
theorem dL_acts_369 : decode cL_acts 369 = .ok (.if_icmp .le 8, 3) := by decide +kernel
theorem dL_acts_372 : decode cL_acts 372 = .ok (.bipush (-2), 2) := by decide +kernel
theorem dL_acts_374 : decode cL_acts 374 = .ok (.goto 16, 3) := by decide +kernel
theorem dL_acts_377 : decode cL_acts 377 = .ok (.iload 7, 2) := by decide +kernel
theorem dL_acts_379 : decode cL_acts 379 = .ok (.iconst 3, 1) := by decide +kernel
theorem dL_acts_380 : decode cL_acts 380 = .ok (.if_icmp .ne 8, 3) := by decide +kernel
theorem dL_acts_383 : decode cL_acts 383 = .ok (.bipush (-3), 2) := by decide +kernel
theorem dL_acts_385 : decode cL_acts 385 = .ok (.goto 5, 3) := by decide +kernel
theorem dL_acts_388 : decode cL_acts 388 = .ok (.iload 7, 2) := by decide +kernel
theorem dL_acts_390 : decode cL_acts 390 = .ok (.if_icmp .ne 54, 3) := by decide +kernel
theorem dL_acts_393 : decode cL_acts 393 = .ok (.iload 11, 2) := by decide +kernel
theorem dL_acts_395 : decode cL_acts 395 = .ok (.ifCond .lt 45, 3) := by decide +kernel
theorem dL_acts_398 : decode cL_acts 398 = .ok (.aload_n 0, 1) := by decide +kernel
theorem dL_acts_399 : decode cL_acts 399 = .ok (.iload 5, 2) := by decide +kernel
theorem dL_acts_401 : decode cL_acts 401 = .ok (.iload 11, 2) := by decide +kernel
theorem dL_acts_403 : decode cL_acts 403 = .ok (.iconst 0, 1) := by decide +kernel
theorem dL_acts_404 : decode cL_acts 404 = .ok (.invokevirtual 23, 3) := by decide +kernel
theorem dL_acts_407 : decode cL_acts 407 = .ok (.iload 8, 2) := by decide +kernel
theorem dL_acts_409 : decode cL_acts 409 = .ok (.if_icmp .ne 35, 3) := by decide +kernel
theorem dL_acts_412 : decode cL_acts 412 = .ok (.aload_n 0, 1) := by decide +kernel
theorem dL_acts_413 : decode cL_acts 413 = .ok (.iload 5, 2) := by decide +kernel
theorem dL_acts_415 : decode cL_acts 415 = .ok (.iload 11, 2) := by decide +kernel
theorem dL_acts_417 : decode cL_acts 417 = .ok (.iconst 1, 1) := by decide +kernel
theorem dL_acts_418 : decode cL_acts 418 = .ok (.invokevirtual 23, 3) := by decide +kernel
theorem dL_acts_421 : decode cL_acts 421 = .ok (.iload 9, 2) := by decide +kernel
theorem dL_acts_423 : decode cL_acts 423 = .ok (.if_icmp .ne 21, 3) := by decide +kernel
theorem dL_acts_426 : decode cL_acts 426 = .ok (.aload_n 0, 1) := by decide +kernel
theorem dL_acts_427 : decode cL_acts 427 = .ok (.iload 5, 2) := by decide +kernel
theorem dL_acts_429 : decode cL_acts 429 = .ok (.iload 11, 2) := by decide +kernel
theorem dL_acts_431 : decode cL_acts 431 = .ok (.iconst 2, 1) := by decide +kernel
theorem dL_acts_432 : decode cL_acts 432 = .ok (.invokevirtual 23, 3) := by decide +kernel
theorem dL_acts_435 : decode cL_acts 435 = .ok (.iload 10, 2) := by decide +kernel
theorem dL_acts_437 : decode cL_acts 437 = .ok (.if_icmp .ne 7, 3) := by decide +kernel
theorem dL_acts_440 : decode cL_acts 440 = .ok (.iconst 1, 1) := by decide +kernel
theorem dL_acts_441 : decode cL_acts 441 = .ok (.goto 4, 3) := by decide +kernel
theorem dL_acts_444 : decode cL_acts 444 = .ok (.iconst 0, 1) := by decide +kernel
theorem dL_acts_445 : decode cL_acts 445 = .ok (.ireturn, 1) := by decide +kernel
theorem dL_acts_446 : decode cL_acts 446 = .ok (.iload_n 3, 1) := by decide +kernel
theorem dL_acts_447 : decode cL_acts 447 = .ok (.bipush 7, 2) := by decide +kernel
theorem dL_acts_449 : decode cL_acts 449 = .ok (.if_icmp .ne 101, 3) := by decide +kernel
theorem dL_acts_452 : decode cL_acts 452 = .ok (.iload_n 2, 1) := by decide +kernel
theorem dL_acts_453 : decode cL_acts 453 = .ok (.iconst 5, 1) := by decide +kernel
theorem dL_acts_454 : decode cL_acts 454 = .ok (.ishr, 1) := by decide +kernel
theorem dL_acts_455 : decode cL_acts 455 = .ok (.iconst 4, 1) := by decide +kernel
theorem dL_acts_456 : decode cL_acts 456 = .ok (.invokestatic 35, 3) := by decide +kernel
theorem dL_acts_459 : decode cL_acts 459 = .ok (.iconst 1, 1) := by decide +kernel
theorem dL_acts_460 : decode cL_acts 460 = .ok (.isub, 1) := by decide +kernel
theorem dL_acts_461 : decode cL_acts 461 = .ok (.istore 8, 2) := by decide +kernel
theorem dL_acts_463 : decode cL_acts 463 = .ok (.iload 8, 2) := by decide +kernel
theorem dL_acts_465 : decode cL_acts 465 = .ok (.ifCond .lt 14, 3) := by decide +kernel
theorem dL_acts_468 : decode cL_acts 468 = .ok (.iload 8, 2) := by decide +kernel
theorem dL_acts_470 : decode cL_acts 470 = .ok (.iload 7, 2) := by decide +kernel
theorem dL_acts_472 : decode cL_acts 472 = .ok (.if_icmp .ge 7, 3) := by decide +kernel
theorem dL_acts_475 : decode cL_acts 475 = .ok (.iconst 1, 1) := by decide +kernel
theorem dL_acts_476 : decode cL_acts 476 = .ok (.goto 4, 3) := by decide +kernel
theorem dL_acts_479 : decode cL_acts 479 = .ok (.iconst 0, 1) := by decide +kernel
theorem dL_acts_480 : decode cL_acts 480 = .ok (.istore 9, 2) := by decide +kernel
theorem dL_acts_482 : decode cL_acts 482 = .ok (.iload 9, 2) := by decide +kernel
theorem dL_acts_484 : decode cL_acts 484 = .ok (.ifCond .eq 15, 3) := by decide +kernel
theorem dL_acts_487 : decode cL_acts 487 = .ok (.aload_n 0, 1) := by decide +kernel
theorem dL_acts_488 : decode cL_acts 488 = .ok (.iload 5, 2) := by decide +kernel
theorem dL_acts_490 : decode cL_acts 490 = .ok (.iload 8, 2) := by decide +kernel
theorem dL_acts_492 : decode cL_acts 492 = .ok (.iconst 0, 1) := by decide +kernel
theorem dL_acts_493 : decode cL_acts 493 = .ok (.invokevirtual 23, 3) := by decide +kernel
theorem dL_acts_496 : decode cL_acts 496 = .ok (.goto 4, 3) := by decide +kernel
theorem dL_acts_499 : decode cL_acts 499 = .ok (.iconst (-1), 1) := by decide +kernel
theorem dL_acts_500 : decode cL_acts 500 = .ok (.istore 10, 2) := by decide +kernel
theorem dL_acts_502 : decode cL_acts 502 = .ok (.aload_n 0, 1) := by decide +kernel
theorem dL_acts_503 : decode cL_acts 503 = .ok (.iload 5, 2) := by decide +kernel
theorem dL_acts_505 : decode cL_acts 505 = .ok (.iload 8, 2) := by decide +kernel
theorem dL_acts_507 : decode cL_acts 507 = .ok (.invokevirtual 67, 3) := by decide +kernel
theorem dL_acts_510 : decode cL_acts 510 = .ok (.iload 10, 2) := by decide +kernel
theorem dL_acts_512 : decode cL_acts 512 = .ok (.if_icmp .ne 36, 3) := by decide +kernel
theorem dL_acts_515 : decode cL_acts 515 = .ok (.iload 6, 2) := by decide +kernel
theorem dL_acts_517 : decode cL_acts 517 = .ok (.ifCond .ne 27, 3) := by decide +kernel
theorem dL_acts_520 : decode cL_acts 520 = .ok (.aload_n 0, 1) := by decide +kernel
theorem dL_acts_521 : decode cL_acts 521 = .ok (.iload 5, 2) := by decide +kernel
theorem dL_acts_523 : decode cL_acts 523 = .ok (.iconst 0, 1) := by decide +kernel
theorem dL_acts_524 : decode cL_acts 524 = .ok (.invokevirtual 19, 3) := by decide +kernel
theorem dL_acts_527 : decode cL_acts 527 = .ok (.iload 9, 2) := by decide +kernel
theorem dL_acts_529 : decode cL_acts 529 = .ok (.ifCond .eq 10, 3) := by decide +kernel
theorem dL_acts_532 : decode cL_acts 532 = .ok (.iload 7, 2) := by decide +kernel
theorem dL_acts_534 : decode cL_acts 534 = .ok (.iconst 1, 1) := by decide +kernel
theorem dL_acts_535 : decode cL_acts 535 = .ok (.isub, 1) := by decide +kernel
theorem dL_acts_536 : decode cL_acts 536 = .ok (.goto 5, 3) := by decide +kernel
theorem dL_acts_539 : decode cL_acts 539 = .ok (.iload 7, 2) := by decide +kernel
theorem dL_acts_541 : decode cL_acts 541 = .ok (.if_icmp .ne 7, 3) := by decide +kernel
theorem dL_acts_544 : decode cL_acts 544 = .ok (.iconst 1, 1) := by decide +kernel
theorem dL_acts_545 : decode cL_acts 545 = .ok (.goto 4, 3) := by decide +kernel
theorem dL_acts_548 : decode cL_acts 548 = .ok (.iconst 0, 1) := by decide +kernel
theorem dL_acts_549 : decode cL_acts 549 = .ok (.ireturn, 1) := by decide +kernel
theorem dL_acts_550 : decode cL_acts 550 = .ok (.iload_n 3, 1) := by decide +kernel
theorem dL_acts_551 : decode cL_acts 551 = .ok (.bipush 8, 2) := by decide +kernel
theorem dL_acts_553 : decode cL_acts 553 = .ok (.if_icmp .ne 81, 3) := by decide +kernel
theorem dL_acts_556 : decode cL_acts 556 = .ok (.iload_n 2, 1) := by decide +kernel
theorem dL_acts_557 : decode cL_acts 557 = .ok (.iconst 5, 1) := by decide +kernel
theorem dL_acts_558 : decode cL_acts 558 = .ok (.ishr, 1) := by decide +kernel
theorem dL_acts_559 : decode cL_acts 559 = .ok (.iload 4, 2) := by decide +kernel
theorem dL_acts_561 : decode cL_acts 561 = .ok (.iconst 1, 1) := by decide +kernel
theorem dL_acts_562 : decode cL_acts 562 = .ok (.iadd, 1) := by decide +kernel
theorem dL_acts_563 : decode cL_acts 563 = .ok (.invokestatic 35, 3) := by decide +kernel
theorem dL_acts_566 : decode cL_acts 566 = .ok (.istore 8, 2) := by decide +kernel
theorem dL_acts_568 : decode cL_acts 568 = .ok (.iload 6, 2) := by decide +kernel
theorem dL_acts_570 : decode cL_acts 570 = .ok (.ifCond .ne 10, 3) := by decide +kernel
theorem dL_acts_573 : decode cL_acts 573 = .ok (.iload 8, 2) := by decide +kernel
theorem dL_acts_575 : decode cL_acts 575 = .ok (.iload 4, 2) := by decide +kernel
theorem dL_acts_577 : decode cL_acts 577 = .ok (.if_icmp .ne 7, 3) := by decide +kernel
theorem dL_acts_580 : decode cL_acts 580 = .ok (.iconst (-1), 1) := by decide +kernel
theorem dL_acts_581 : decode cL_acts 581 = .ok (.goto 32, 3) := by decide +kernel
theorem dL_acts_584 : decode cL_acts 584 = .ok (.iload 5, 2) := by decide +kernel
theorem dL_acts_586 : decode cL_acts 586 = .ok (.iload 8, 2) := by decide +kernel
theorem dL_acts_588 : decode cL_acts 588 = .ok (.if_icmp .ne 8, 3) := by decide +kernel
theorem dL_acts_591 : decode cL_acts 591 = .ok (.bipush (-5), 2) := by decide +kernel
theorem dL_acts_593 : decode cL_acts 593 = .ok (.goto 20, 3) := by decide +kernel
theorem dL_acts_596 : decode cL_acts 596 = .ok (.aload_n 0, 1) := by decide +kernel
theorem dL_acts_597 : decode cL_acts 597 = .ok (.iload 5, 2) := by decide +kernel
theorem dL_acts_599 : decode cL_acts 599 = .ok (.bipush 10, 2) := by decide +kernel
theorem dL_acts_601 : decode cL_acts 601 = .ok (.invokevirtual 19, 3) := by decide +kernel
theorem dL_acts_604 : decode cL_acts 604 = .ok (.aload_n 0, 1) := by decide +kernel
theorem dL_acts_605 : decode cL_acts 605 = .ok (.iload 8, 2) := by decide +kernel
theorem dL_acts_607 : decode cL_acts 607 = .ok (.bipush 10, 2) := by decide +kernel
theorem dL_acts_609 : decode cL_acts 609 = .ok (.invokevirtual 19, 3) := by decide +kernel
theorem dL_acts_612 : decode cL_acts 612 = .ok (.iadd, 1) := by decide +kernel
theorem dL_acts_613 : decode cL_acts 613 = .ok (.istore 9, 2) := by decide +kernel
theorem dL_acts_615 : decode cL_acts 615 = .ok (.aload_n 0, 1) := by decide +kernel
theorem dL_acts_616 : decode cL_acts 616 = .ok (.iload 5, 2) := by decide +kernel
theorem dL_acts_618 : decode cL_acts 618 = .ok (.iload 8, 2) := by decide +kernel
theorem dL_acts_620 : decode cL_acts 620 = .ok (.invokevirtual 70, 3) := by decide +kernel
theorem dL_acts_623 : decode cL_acts 623 = .ok (.iload 9, 2) := by decide +kernel
theorem dL_acts_625 : decode cL_acts 625 = .ok (.if_icmp .ne 7, 3) := by decide +kernel
theorem dL_acts_628 : decode cL_acts 628 = .ok (.iconst 1, 1) := by decide +kernel
theorem dL_acts_629 : decode cL_acts 629 = .ok (.goto 4, 3) := by decide +kernel
theorem dL_acts_632 : decode cL_acts 632 = .ok (.iconst 0, 1) := by decide +kernel
theorem dL_acts_633 : decode cL_acts 633 = .ok (.ireturn, 1) := by decide +kernel
theorem dL_acts_634 : decode cL_acts 634 = .ok (.iload_n 3, 1) := by decide +kernel
theorem dL_acts_635 : decode cL_acts 635 = .ok (.bipush 9, 2) := by decide +kernel
theorem dL_acts_637 : decode cL_acts 637 = .ok (.if_icmp .ne 145, 3) := by decide +kernel
theorem dL_acts_640 : decode cL_acts 640 = .ok (.iload_n 2, 1) := by decide +kernel
theorem dL_acts_641 : decode cL_acts 641 = .ok (.iconst 5, 1) := by decide +kernel
theorem dL_acts_642 : decode cL_acts 642 = .ok (.ishr, 1) := by decide +kernel
theorem dL_acts_643 : decode cL_acts 643 = .ok (.sipush 202, 3) := by decide +kernel
theorem dL_acts_646 : decode cL_acts 646 = .ok (.invokestatic 35, 3) := by decide +kernel
theorem dL_acts_649 : decode cL_acts 649 = .ok (.bipush 101, 2) := by decide +kernel
theorem dL_acts_651 : decode cL_acts 651 = .ok (.isub, 1) := by decide +kernel
theorem dL_acts_652 : decode cL_acts 652 = .ok (.istore 8, 2) := by decide +kernel
theorem dL_acts_654 : decode cL_acts 654 = .ok (.iload 6, 2) := by decide +kernel
theorem dL_acts_656 : decode cL_acts 656 = .ok (.ifCond .eq 7, 3) := by decide +kernel
theorem dL_acts_659 : decode cL_acts 659 = .ok (.iconst 0, 1) := by decide +kernel
theorem dL_acts_660 : decode cL_acts 660 = .ok (.goto 10, 3) := by decide +kernel
theorem dL_acts_663 : decode cL_acts 663 = .ok (.aload_n 0, 1) := by decide +kernel
theorem dL_acts_664 : decode cL_acts 664 = .ok (.iload 5, 2) := by decide +kernel
theorem dL_acts_666 : decode cL_acts 666 = .ok (.iconst 3, 1) := by decide +kernel
theorem dL_acts_667 : decode cL_acts 667 = .ok (.invokevirtual 19, 3) := by decide +kernel
theorem dL_acts_670 : decode cL_acts 670 = .ok (.istore 9, 2) := by decide +kernel
theorem dL_acts_672 : decode cL_acts 672 = .ok (.aload_n 0, 1) := by decide +kernel
theorem dL_acts_673 : decode cL_acts 673 = .ok (.iload 5, 2) := by decide +kernel
theorem dL_acts_675 : decode cL_acts 675 = .ok (.iload 8, 2) := by decide +kernel
theorem dL_acts_677 : decode cL_acts 677 = .ok (.invokevirtual 73, 3) := by decide +kernel
theorem dL_acts_680 : decode cL_acts 680 = .ok (.istore 10, 2) := by decide +kernel
theorem dL_acts_682 : decode cL_acts 682 = .ok (.iload 6, 2) := by decide +kernel
theorem dL_acts_684 : decode cL_acts 684 = .ok (.ifCond .eq 17, 3) := by decide +kernel
theorem dL_acts_687 : decode cL_acts 687 = .ok (.iload 10, 2) := by decide +kernel
theorem dL_acts_689 : decode cL_acts 689 = .ok (.iconst (-1), 1) := by decide +kernel
theorem dL_acts_690 : decode cL_acts 690 = .ok (.if_icmp .ne 7, 3) := by decide +kernel
theorem dL_acts_693 : decode cL_acts 693 = .ok (.iconst 1, 1) := by decide +kernel
theorem dL_acts_694 : decode cL_acts 694 = .ok (.goto 87, 3) := by decide +kernel
theorem dL_acts_697 : decode cL_acts 697 = .ok (.iconst 0, 1) := by decide +kernel
theorem dL_acts_698 : decode cL_acts 698 = .ok (.goto 83, 3) := by decide +kernel
theorem dL_acts_701 : decode cL_acts 701 = .ok (.iload 8, 2) := by decide +kernel
theorem dL_acts_703 : decode cL_acts 703 = .ok (.bipush (-99), 2) := by decide +kernel
theorem dL_acts_705 : decode cL_acts 705 = .ok (.if_icmp .lt 10, 3) := by decide +kernel
theorem dL_acts_708 : decode cL_acts 708 = .ok (.iload 8, 2) := by decide +kernel
theorem dL_acts_710 : decode cL_acts 710 = .ok (.bipush 99, 2) := by decide +kernel
theorem dL_acts_712 : decode cL_acts 712 = .ok (.if_icmp .le 18, 3) := by decide +kernel
theorem dL_acts_715 : decode cL_acts 715 = .ok (.iload 10, 2) := by decide +kernel
theorem dL_acts_717 : decode cL_acts 717 = .ok (.bipush (-2), 2) := by decide +kernel
theorem dL_acts_719 : decode cL_acts 719 = .ok (.if_icmp .ne 7, 3) := by decide +kernel
theorem dL_acts_722 : decode cL_acts 722 = .ok (.iconst 1, 1) := by decide +kernel
theorem dL_acts_723 : decode cL_acts 723 = .ok (.goto 58, 3) := by decide +kernel
theorem dL_acts_726 : decode cL_acts 726 = .ok (.iconst 0, 1) := by decide +kernel
theorem dL_acts_727 : decode cL_acts 727 = .ok (.goto 54, 3) := by decide +kernel
theorem dL_acts_730 : decode cL_acts 730 = .ok (.iload 10, 2) := by decide +kernel
theorem dL_acts_732 : decode cL_acts 732 = .ok (.bipush (-5), 2) := by decide +kernel
theorem dL_acts_734 : decode cL_acts 734 = .ok (.if_icmp .ne 23, 3) := by decide +kernel
theorem dL_acts_737 : decode cL_acts 737 = .ok (.aload_n 0, 1) := by decide +kernel
theorem dL_acts_738 : decode cL_acts 738 = .ok (.iload 5, 2) := by decide +kernel
theorem dL_acts_740 : decode cL_acts 740 = .ok (.iconst 3, 1) := by decide +kernel
theorem dL_acts_741 : decode cL_acts 741 = .ok (.invokevirtual 19, 3) := by decide +kernel
theorem dL_acts_744 : decode cL_acts 744 = .ok (.iload 9, 2) := by decide +kernel
theorem dL_acts_746 : decode cL_acts 746 = .ok (.if_icmp .ne 7, 3) := by decide +kernel
theorem dL_acts_749 : decode cL_acts 749 = .ok (.iconst 1, 1) := by decide +kernel
theorem dL_acts_750 : decode cL_acts 750 = .ok (.goto 31, 3) := by decide +kernel
theorem dL_acts_753 : decode cL_acts 753 = .ok (.iconst 0, 1) := by decide +kernel
theorem dL_acts_754 : decode cL_acts 754 = .ok (.goto 27, 3) := by decide +kernel
theorem dL_acts_757 : decode cL_acts 757 = .ok (.iload 10, 2) := by decide +kernel
theorem dL_acts_759 : decode cL_acts 759 = .ok (.iload 7, 2) := by decide +kernel
theorem dL_acts_761 : decode cL_acts 761 = .ok (.if_icmp .ne 19, 3) := by decide +kernel
theorem dL_acts_764 : decode cL_acts 764 = .ok (.aload_n 0, 1) := by decide +kernel
theorem dL_acts_765 : decode cL_acts 765 = .ok (.iload 5, 2) := by decide +kernel
theorem dL_acts_767 : decode cL_acts 767 = .ok (.iconst 3, 1) := by decide +kernel
theorem dL_acts_768 : decode cL_acts 768 = .ok (.invokevirtual 19, 3) := by decide +kernel
theorem dL_acts_771 : decode cL_acts 771 = .ok (.iload 9, 2) := by decide +kernel
theorem dL_acts_773 : decode cL_acts 773 = .ok (.if_icmp .eq 7, 3) := by decide +kernel
theorem dL_acts_776 : decode cL_acts 776 = .ok (.iconst 1, 1) := by decide +kernel
theorem dL_acts_777 : decode cL_acts 777 = .ok (.goto 4, 3) := by decide +kernel
theorem dL_acts_780 : decode cL_acts 780 = .ok (.iconst 0, 1) := by decide +kernel
theorem dL_acts_781 : decode cL_acts 781 = .ok (.ireturn, 1) := by decide +kernel
theorem dL_acts_782 : decode cL_acts 782 = .ok (.iload_n 2, 1) := by decide +kernel
theorem dL_acts_783 : decode cL_acts 783 = .ok (.iconst 3, 1) := by decide +kernel
theorem dL_acts_784 : decode cL_acts 784 = .ok (.invokestatic 35, 3) := by decide +kernel
theorem dL_acts_787 : decode cL_acts 787 = .ok (.istore 8, 2) := by decide +kernel
theorem dL_acts_789 : decode cL_acts 789 = .ok (.iload 8, 2) := by decide +kernel
theorem dL_acts_791 : decode cL_acts 791 = .ok (.iconst 2, 1) := by decide +kernel
theorem dL_acts_792 : decode cL_acts 792 = .ok (.if_icmp .ne 7, 3) := by decide +kernel
theorem dL_acts_795 : decode cL_acts 795 = .ok (.iconst 1, 1) := by decide +kernel
theorem dL_acts_796 : decode cL_acts 796 = .ok (.goto 4, 3) := by decide +kernel
theorem dL_acts_799 : decode cL_acts 799 = .ok (.iconst 0, 1) := by decide +kernel
theorem dL_acts_800 : decode cL_acts 800 = .ok (.istore 9, 2) := by decide +kernel
theorem dL_acts_802 : decode cL_acts 802 = .ok (.iload 9, 2) := by decide +kernel
theorem dL_acts_804 : decode cL_acts 804 = .ok (.ifCond .eq 8, 3) := by decide +kernel
theorem dL_acts_807 : decode cL_acts 807 = .ok (.bipush (-5), 2) := by decide +kernel
theorem dL_acts_809 : decode cL_acts 809 = .ok (.goto 10, 3) := by decide +kernel
theorem dL_acts_812 : decode cL_acts 812 = .ok (.aload_n 0, 1) := by decide +kernel
theorem dL_acts_813 : decode cL_acts 813 = .ok (.iload 8, 2) := by decide +kernel
theorem dL_acts_815 : decode cL_acts 815 = .ok (.iconst 0, 1) := by decide +kernel
theorem dL_acts_816 : decode cL_acts 816 = .ok (.invokevirtual 27, 3) := by decide +kernel
theorem dL_acts_819 : decode cL_acts 819 = .ok (.istore 10, 2) := by decide +kernel
theorem dL_acts_821 : decode cL_acts 821 = .ok (.iload_n 3, 1) := by decide +kernel
theorem dL_acts_822 : decode cL_acts 822 = .ok (.bipush 10, 2) := by decide +kernel
theorem dL_acts_824 : decode cL_acts 824 = .ok (.if_icmp .ne 84, 3) := by decide +kernel
theorem dL_acts_827 : decode cL_acts 827 = .ok (.aload_n 0, 1) := by decide +kernel
theorem dL_acts_828 : decode cL_acts 828 = .ok (.iload 8, 2) := by decide +kernel
theorem dL_acts_830 : decode cL_acts 830 = .ok (.invokevirtual 76, 3) := by decide +kernel
theorem dL_acts_833 : decode cL_acts 833 = .ok (.istore 11, 2) := by decide +kernel
theorem dL_acts_835 : decode cL_acts 835 = .ok (.iload 11, 2) := by decide +kernel
theorem dL_acts_837 : decode cL_acts 837 = .ok (.iload 9, 2) := by decide +kernel
theorem dL_acts_839 : decode cL_acts 839 = .ok (.ifCond .eq 7, 3) := by decide +kernel
theorem dL_acts_842 : decode cL_acts 842 = .ok (.iconst (-1), 1) := by decide +kernel
theorem dL_acts_843 : decode cL_acts 843 = .ok (.goto 19, 3) := by decide +kernel
theorem dL_acts_846 : decode cL_acts 846 = .ok (.iload 4, 2) := by decide +kernel
theorem dL_acts_848 : decode cL_acts 848 = .ok (.ifCond .ne 8, 3) := by decide +kernel
theorem dL_acts_851 : decode cL_acts 851 = .ok (.bipush (-4), 2) := by decide +kernel
theorem dL_acts_853 : decode cL_acts 853 = .ok (.goto 9, 3) := by decide +kernel
theorem dL_acts_856 : decode cL_acts 856 = .ok (.aload_n 0, 1) := by decide +kernel
theorem dL_acts_857 : decode cL_acts 857 = .ok (.iconst 0, 1) := by decide +kernel
theorem dL_acts_858 : decode cL_acts 858 = .ok (.iconst 1, 1) := by decide +kernel
theorem dL_acts_859 : decode cL_acts 859 = .ok (.invokevirtual 19, 3) := by decide +kernel
theorem dL_acts_862 : decode cL_acts 862 = .ok (.if_icmp .ne 44, 3) := by decide +kernel
theorem dL_acts_865 : decode cL_acts 865 = .ok (.iload 11, 2) := by decide +kernel
theorem dL_acts_867 : decode cL_acts 867 = .ok (.ifCond .lt 35, 3) := by decide +kernel
theorem dL_acts_870 : decode cL_acts 870 = .ok (.aload_n 0, 1) := by decide +kernel
theorem dL_acts_871 : decode cL_acts 871 = .ok (.iload 8, 2) := by decide +kernel
theorem dL_acts_873 : decode cL_acts 873 = .ok (.iconst 0, 1) := by decide +kernel
theorem dL_acts_874 : decode cL_acts 874 = .ok (.invokevirtual 27, 3) := by decide +kernel
theorem dL_acts_877 : decode cL_acts 877 = .ok (.ifCond .ne 29, 3) := by decide +kernel
theorem dL_acts_880 : decode cL_acts 880 = .ok (.aload_n 0, 1) := by decide +kernel
theorem dL_acts_881 : decode cL_acts 881 = .ok (.iload 8, 2) := by decide +kernel
theorem dL_acts_883 : decode cL_acts 883 = .ok (.iconst 1, 1) := by decide +kernel
theorem dL_acts_884 : decode cL_acts 884 = .ok (.invokevirtual 27, 3) := by decide +kernel
theorem dL_acts_887 : decode cL_acts 887 = .ok (.iload 11, 2) := by decide +kernel
theorem dL_acts_889 : decode cL_acts 889 = .ok (.if_icmp .ne 17, 3) := by decide +kernel
theorem dL_acts_892 : decode cL_acts 892 = .ok (.aload_n 0, 1) := by decide +kernel
theorem dL_acts_893 : decode cL_acts 893 = .ok (.iload 8, 2) := by decide +kernel
theorem dL_acts_895 : decode cL_acts 895 = .ok (.iconst 3, 1) := by decide +kernel
theorem dL_acts_896 : decode cL_acts 896 = .ok (.invokevirtual 27, 3) := by decide +kernel
theorem dL_acts_899 : decode cL_acts 899 = .ok (.ifCond .ne 7, 3) := by decide +kernel
theorem dL_acts_902 : decode cL_acts 902 = .ok (.iconst 1, 1) := by decide +kernel
theorem dL_acts_903 : decode cL_acts 903 = .ok (.goto 4, 3) := by decide +kernel
theorem dL_acts_906 : decode cL_acts 906 = .ok (.iconst 0, 1) := by decide +kernel
theorem dL_acts_907 : decode cL_acts 907 = .ok (.ireturn, 1) := by decide +kernel
theorem dL_acts_908 : decode cL_acts 908 = .ok (.iload_n 3, 1) := by decide +kernel
theorem dL_acts_909 : decode cL_acts 909 = .ok (.bipush 15, 2) := by decide +kernel
theorem dL_acts_911 : decode cL_acts 911 = .ok (.if_icmp .ge 145, 3) := by decide +kernel
theorem dL_acts_914 : decode cL_acts 914 = .ok (.iload_n 2, 1) := by decide +kernel
theorem dL_acts_915 : decode cL_acts 915 = .ok (.iconst 2, 1) := by decide +kernel
theorem dL_acts_916 : decode cL_acts 916 = .ok (.ishr, 1) := by decide +kernel
theorem dL_acts_917 : decode cL_acts 917 = .ok (.iconst 4, 1) := by decide +kernel
theorem dL_acts_918 : decode cL_acts 918 = .ok (.invokestatic 35, 3) := by decide +kernel
theorem dL_acts_921 : decode cL_acts 921 = .ok (.istore 11, 2) := by decide +kernel
theorem dL_acts_923 : decode cL_acts 923 = .ok (.aload_n 0, 1) := by decide +kernel
theorem dL_acts_924 : decode cL_acts 924 = .ok (.iload 8, 2) := by decide +kernel
theorem dL_acts_926 : decode cL_acts 926 = .ok (.iload 11, 2) := by decide +kernel
theorem dL_acts_928 : decode cL_acts 928 = .ok (.invokevirtual 32, 3) := by decide +kernel
theorem dL_acts_931 : decode cL_acts 931 = .ok (.istore 12, 2) := by decide +kernel
theorem dL_acts_933 : decode cL_acts 933 = .ok (.iload 9, 2) := by decide +kernel
theorem dL_acts_935 : decode cL_acts 935 = .ok (.ifCond .eq 7, 3) := by decide +kernel
theorem dL_acts_938 : decode cL_acts 938 = .ok (.iconst 0, 1) := by decide +kernel
theorem dL_acts_939 : decode cL_acts 939 = .ok (.goto 10, 3) := by decide +kernel
theorem dL_acts_942 : decode cL_acts 942 = .ok (.aload_n 0, 1) := by decide +kernel
theorem dL_acts_943 : decode cL_acts 943 = .ok (.iload 8, 2) := by decide +kernel
theorem dL_acts_945 : decode cL_acts 945 = .ok (.iconst 3, 1) := by decide +kernel
theorem dL_acts_946 : decode cL_acts 946 = .ok (.invokevirtual 27, 3) := by decide +kernel
theorem dL_acts_949 : decode cL_acts 949 = .ok (.istore 13, 2) := by decide +kernel
theorem dL_acts_951 : decode cL_acts 951 = .ok (.iload 12, 2) := by decide +kernel
theorem dL_acts_953 : decode cL_acts 953 = .ok (.ifCond .ne 15, 3) := by decide +kernel
theorem dL_acts_956 : decode cL_acts 956 = .ok (.aload_n 0, 1) := by decide +kernel
theorem dL_acts_957 : decode cL_acts 957 = .ok (.iload 10, 2) := by decide +kernel
theorem dL_acts_959 : decode cL_acts 959 = .ok (.iload 11, 2) := by decide +kernel
theorem dL_acts_961 : decode cL_acts 961 = .ok (.iconst 0, 1) := by decide +kernel
theorem dL_acts_962 : decode cL_acts 962 = .ok (.invokevirtual 23, 3) := by decide +kernel
theorem dL_acts_965 : decode cL_acts 965 = .ok (.goto 5, 3) := by decide +kernel
theorem dL_acts_968 : decode cL_acts 968 = .ok (.bipush (-4), 2) := by decide +kernel
theorem dL_acts_970 : decode cL_acts 970 = .ok (.istore 14, 2) := by decide +kernel
theorem dL_acts_972 : decode cL_acts 972 = .ok (.aload_n 0, 1) := by decide +kernel
theorem dL_acts_973 : decode cL_acts 973 = .ok (.iload 8, 2) := by decide +kernel
theorem dL_acts_975 : decode cL_acts 975 = .ok (.iload 11, 2) := by decide +kernel
theorem dL_acts_977 : decode cL_acts 977 = .ok (.invokevirtual 79, 3) := by decide +kernel
theorem dL_acts_980 : decode cL_acts 980 = .ok (.istore 15, 2) := by decide +kernel
theorem dL_acts_982 : decode cL_acts 982 = .ok (.iload 15, 2) := by decide +kernel
theorem dL_acts_984 : decode cL_acts 984 = .ok (.iload 9, 2) := by decide +kernel
theorem dL_acts_986 : decode cL_acts 986 = .ok (.ifCond .eq 7, 3) := by decide +kernel
theorem dL_acts_989 : decode cL_acts 989 = .ok (.iconst (-1), 1) := by decide +kernel
theorem dL_acts_990 : decode cL_acts 990 = .ok (.goto 26, 3) := by decide +kernel
theorem dL_acts_993 : decode cL_acts 993 = .ok (.iload 11, 2) := by decide +kernel
theorem dL_acts_995 : decode cL_acts 995 = .ok (.iconst 3, 1) := by decide +kernel
theorem dL_acts_996 : decode cL_acts 996 = .ok (.if_icmp .ne 8, 3) := by decide +kernel
theorem dL_acts_999 : decode cL_acts 999 = .ok (.bipush (-2), 2) := by decide +kernel
theorem dL_acts_1001 : decode cL_acts 1001 = .ok (.goto 15, 3) := by decide +kernel
theorem dL_acts_1004 : decode cL_acts 1004 = .ok (.iload 12, 2) := by decide +kernel
theorem dL_acts_1006 : decode cL_acts 1006 = .ok (.ifCond .ne 8, 3) := by decide +kernel
theorem dL_acts_1009 : decode cL_acts 1009 = .ok (.iload 14, 2) := by decide +kernel
theorem dL_acts_1011 : decode cL_acts 1011 = .ok (.goto 5, 3) := by decide +kernel
theorem dL_acts_1014 : decode cL_acts 1014 = .ok (.bipush (-4), 2) := by decide +kernel
theorem dL_acts_1016 : decode cL_acts 1016 = .ok (.if_icmp .ne 38, 3) := by decide +kernel
theorem dL_acts_1019 : decode cL_acts 1019 = .ok (.iload 15, 2) := by decide +kernel
theorem dL_acts_1021 : decode cL_acts 1021 = .ok (.ifCond .lt 29, 3) := by decide +kernel
theorem dL_acts_1024 : decode cL_acts 1024 = .ok (.aload_n 0, 1) := by decide +kernel
theorem dL_acts_1025 : decode cL_acts 1025 = .ok (.iload 8, 2) := by decide +kernel
theorem dL_acts_1027 : decode cL_acts 1027 = .ok (.iconst 0, 1) := by decide +kernel
theorem dL_acts_1028 : decode cL_acts 1028 = .ok (.invokevirtual 27, 3) := by decide +kernel
theorem dL_acts_1031 : decode cL_acts 1031 = .ok (.iload 15, 2) := by decide +kernel
theorem dL_acts_1033 : decode cL_acts 1033 = .ok (.if_icmp .ne 21, 3) := by decide +kernel
theorem dL_acts_1036 : decode cL_acts 1036 = .ok (.aload_n 0, 1) := by decide +kernel
theorem dL_acts_1037 : decode cL_acts 1037 = .ok (.iload 8, 2) := by decide +kernel
theorem dL_acts_1039 : decode cL_acts 1039 = .ok (.iconst 3, 1) := by decide +kernel
theorem dL_acts_1040 : decode cL_acts 1040 = .ok (.invokevirtual 27, 3) := by decide +kernel
theorem dL_acts_1043 : decode cL_acts 1043 = .ok (.iload 13, 2) := by decide +kernel
theorem dL_acts_1045 : decode cL_acts 1045 = .ok (.iconst 1, 1) := by decide +kernel
theorem dL_acts_1046 : decode cL_acts 1046 = .ok (.iadd, 1) := by decide +kernel
theorem dL_acts_1047 : decode cL_acts 1047 = .ok (.if_icmp .ne 7, 3) := by decide +kernel
theorem dL_acts_1050 : decode cL_acts 1050 = .ok (.iconst 1, 1) := by decide +kernel
theorem dL_acts_1051 : decode cL_acts 1051 = .ok (.goto 4, 3) := by decide +kernel
theorem dL_acts_1054 : decode cL_acts 1054 = .ok (.iconst 0, 1) := by decide +kernel
theorem dL_acts_1055 : decode cL_acts 1055 = .ok (.ireturn, 1) := by decide +kernel
theorem dL_acts_1056 : decode cL_acts 1056 = .ok (.iload_n 3, 1) := by decide +kernel
theorem dL_acts_1057 : decode cL_acts 1057 = .ok (.bipush 15, 2) := by decide +kernel
theorem dL_acts_1059 : decode cL_acts 1059 = .ok (.if_icmp .ne 93, 3) := by decide +kernel
theorem dL_acts_1062 : decode cL_acts 1062 = .ok (.aload_n 0, 1) := by decide +kernel
theorem dL_acts_1063 : decode cL_acts 1063 = .ok (.iload 8, 2) := by decide +kernel
theorem dL_acts_1065 : decode cL_acts 1065 = .ok (.invokevirtual 82, 3) := by decide +kernel
theorem dL_acts_1068 : decode cL_acts 1068 = .ok (.istore 11, 2) := by decide +kernel
theorem dL_acts_1070 : decode cL_acts 1070 = .ok (.iload 9, 2) := by decide +kernel
theorem dL_acts_1072 : decode cL_acts 1072 = .ok (.ifCond .eq 17, 3) := by decide +kernel
theorem dL_acts_1075 : decode cL_acts 1075 = .ok (.iload 11, 2) := by decide +kernel
theorem dL_acts_1077 : decode cL_acts 1077 = .ok (.iconst (-1), 1) := by decide +kernel
theorem dL_acts_1078 : decode cL_acts 1078 = .ok (.if_icmp .ne 7, 3) := by decide +kernel
theorem dL_acts_1081 : decode cL_acts 1081 = .ok (.iconst 1, 1) := by decide +kernel
theorem dL_acts_1082 : decode cL_acts 1082 = .ok (.goto 69, 3) := by decide +kernel
theorem dL_acts_1085 : decode cL_acts 1085 = .ok (.iconst 0, 1) := by decide +kernel
theorem dL_acts_1086 : decode cL_acts 1086 = .ok (.goto 65, 3) := by decide +kernel
theorem dL_acts_1089 : decode cL_acts 1089 = .ok (.iload 10, 2) := by decide +kernel
theorem dL_acts_1091 : decode cL_acts 1091 = .ok (.bipush (-5), 2) := by decide +kernel
theorem dL_acts_1093 : decode cL_acts 1093 = .ok (.if_icmp .ne 18, 3) := by decide +kernel
theorem dL_acts_1096 : decode cL_acts 1096 = .ok (.iload 11, 2) := by decide +kernel
theorem dL_acts_1098 : decode cL_acts 1098 = .ok (.bipush (-4), 2) := by decide +kernel
theorem dL_acts_1100 : decode cL_acts 1100 = .ok (.if_icmp .ne 7, 3) := by decide +kernel
theorem dL_acts_1103 : decode cL_acts 1103 = .ok (.iconst 1, 1) := by decide +kernel
theorem dL_acts_1104 : decode cL_acts 1104 = .ok (.goto 47, 3) := by decide +kernel
theorem dL_acts_1107 : decode cL_acts 1107 = .ok (.iconst 0, 1) := by decide +kernel
theorem dL_acts_1108 : decode cL_acts 1108 = .ok (.goto 43, 3) := by decide +kernel
theorem dL_acts_1111 : decode cL_acts 1111 = .ok (.iload 11, 2) := by decide +kernel
theorem dL_acts_1113 : decode cL_acts 1113 = .ok (.iload 10, 2) := by decide +kernel
theorem dL_acts_1115 : decode cL_acts 1115 = .ok (.if_icmp .eq 10, 3) := by decide +kernel
theorem dL_acts_1118 : decode cL_acts 1118 = .ok (.iload 11, 2) := by decide +kernel
theorem dL_acts_1120 : decode cL_acts 1120 = .ok (.bipush (-5), 2) := by decide +kernel
theorem dL_acts_1122 : decode cL_acts 1122 = .ok (.if_icmp .ne 28, 3) := by decide +kernel
theorem dL_acts_1125 : decode cL_acts 1125 = .ok (.aload_n 0, 1) := by decide +kernel
theorem dL_acts_1126 : decode cL_acts 1126 = .ok (.bipush 9, 2) := by decide +kernel
theorem dL_acts_1128 : decode cL_acts 1128 = .ok (.invokevirtual 11, 3) := by decide +kernel
theorem dL_acts_1131 : decode cL_acts 1131 = .ok (.iconst 1, 1) := by decide +kernel
theorem dL_acts_1132 : decode cL_acts 1132 = .ok (.if_icmp .ne 18, 3) := by decide +kernel
theorem dL_acts_1135 : decode cL_acts 1135 = .ok (.aload_n 0, 1) := by decide +kernel
theorem dL_acts_1136 : decode cL_acts 1136 = .ok (.iload 8, 2) := by decide +kernel
theorem dL_acts_1138 : decode cL_acts 1138 = .ok (.invokevirtual 85, 3) := by decide +kernel
theorem dL_acts_1141 : decode cL_acts 1141 = .ok (.bipush (-5), 2) := by decide +kernel
theorem dL_acts_1143 : decode cL_acts 1143 = .ok (.if_icmp .ne 7, 3) := by decide +kernel
theorem dL_acts_1146 : decode cL_acts 1146 = .ok (.iconst 1, 1) := by decide +kernel
theorem dL_acts_1147 : decode cL_acts 1147 = .ok (.goto 4, 3) := by decide +kernel
theorem dL_acts_1150 : decode cL_acts 1150 = .ok (.iconst 0, 1) := by decide +kernel
theorem dL_acts_1151 : decode cL_acts 1151 = .ok (.ireturn, 1) := by decide +kernel
theorem dL_acts_1152 : decode cL_acts 1152 = .ok (.iload_n 3, 1) := by decide +kernel
theorem dL_acts_1153 : decode cL_acts 1153 = .ok (.bipush 16, 2) := by decide +kernel
theorem dL_acts_1155 : decode cL_acts 1155 = .ok (.if_icmp .ne 108, 3) := by decide +kernel
theorem dL_acts_1158 : decode cL_acts 1158 = .ok (.aload_n 0, 1) := by decide +kernel
theorem dL_acts_1159 : decode cL_acts 1159 = .ok (.bipush 9, 2) := by decide +kernel
theorem dL_acts_1161 : decode cL_acts 1161 = .ok (.invokevirtual 11, 3) := by decide +kernel
theorem dL_acts_1164 : decode cL_acts 1164 = .ok (.istore 11, 2) := by decide +kernel
theorem dL_acts_1166 : decode cL_acts 1166 = .ok (.aload_n 0, 1) := by decide +kernel
theorem dL_acts_1167 : decode cL_acts 1167 = .ok (.iload 8, 2) := by decide +kernel
theorem dL_acts_1169 : decode cL_acts 1169 = .ok (.invokevirtual 85, 3) := by decide +kernel
theorem dL_acts_1172 : decode cL_acts 1172 = .ok (.istore 12, 2) := by decide +kernel
theorem dL_acts_1174 : decode cL_acts 1174 = .ok (.iload 9, 2) := by decide +kernel
theorem dL_acts_1176 : decode cL_acts 1176 = .ok (.ifCond .eq 17, 3) := by decide +kernel
theorem dL_acts_1179 : decode cL_acts 1179 = .ok (.iload 12, 2) := by decide +kernel
theorem dL_acts_1181 : decode cL_acts 1181 = .ok (.iconst (-1), 1) := by decide +kernel
theorem dL_acts_1182 : decode cL_acts 1182 = .ok (.if_icmp .ne 7, 3) := by decide +kernel
theorem dL_acts_1185 : decode cL_acts 1185 = .ok (.iconst 1, 1) := by decide +kernel
theorem dL_acts_1186 : decode cL_acts 1186 = .ok (.goto 76, 3) := by decide +kernel
theorem dL_acts_1189 : decode cL_acts 1189 = .ok (.iconst 0, 1) := by decide +kernel
theorem dL_acts_1190 : decode cL_acts 1190 = .ok (.goto 72, 3) := by decide +kernel
theorem dL_acts_1193 : decode cL_acts 1193 = .ok (.iload 11, 2) := by decide +kernel
theorem dL_acts_1195 : decode cL_acts 1195 = .ok (.ifCond .ne 18, 3) := by decide +kernel
theorem dL_acts_1198 : decode cL_acts 1198 = .ok (.iload 12, 2) := by decide +kernel
theorem dL_acts_1200 : decode cL_acts 1200 = .ok (.bipush (-4), 2) := by decide +kernel
theorem dL_acts_1202 : decode cL_acts 1202 = .ok (.if_icmp .ne 7, 3) := by decide +kernel
theorem dL_acts_1205 : decode cL_acts 1205 = .ok (.iconst 1, 1) := by decide +kernel
theorem dL_acts_1206 : decode cL_acts 1206 = .ok (.goto 56, 3) := by decide +kernel
theorem dL_acts_1209 : decode cL_acts 1209 = .ok (.iconst 0, 1) := by decide +kernel
theorem dL_acts_1210 : decode cL_acts 1210 = .ok (.goto 52, 3) := by decide +kernel
theorem dL_acts_1213 : decode cL_acts 1213 = .ok (.iload 12, 2) := by decide +kernel
theorem dL_acts_1215 : decode cL_acts 1215 = .ok (.bipush (-5), 2) := by decide +kernel
theorem dL_acts_1217 : decode cL_acts 1217 = .ok (.if_icmp .ne 18, 3) := by decide +kernel
theorem dL_acts_1220 : decode cL_acts 1220 = .ok (.iload 10, 2) := by decide +kernel
theorem dL_acts_1222 : decode cL_acts 1222 = .ok (.bipush (-5), 2) := by decide +kernel
theorem dL_acts_1224 : decode cL_acts 1224 = .ok (.if_icmp .eq 7, 3) := by decide +kernel
theorem dL_acts_1227 : decode cL_acts 1227 = .ok (.iconst 1, 1) := by decide +kernel
theorem dL_acts_1228 : decode cL_acts 1228 = .ok (.goto 34, 3) := by decide +kernel
theorem dL_acts_1231 : decode cL_acts 1231 = .ok (.iconst 0, 1) := by decide +kernel
theorem dL_acts_1232 : decode cL_acts 1232 = .ok (.goto 30, 3) := by decide +kernel
theorem dL_acts_1235 : decode cL_acts 1235 = .ok (.aload_n 0, 1) := by decide +kernel
theorem dL_acts_1236 : decode cL_acts 1236 = .ok (.iload 8, 2) := by decide +kernel
theorem dL_acts_1238 : decode cL_acts 1238 = .ok (.iconst 0, 1) := by decide +kernel
theorem dL_acts_1239 : decode cL_acts 1239 = .ok (.invokevirtual 27, 3) := by decide +kernel
theorem dL_acts_1242 : decode cL_acts 1242 = .ok (.iload 12, 2) := by decide +kernel
theorem dL_acts_1244 : decode cL_acts 1244 = .ok (.if_icmp .ne 17, 3) := by decide +kernel
theorem dL_acts_1247 : decode cL_acts 1247 = .ok (.aload_n 0, 1) := by decide +kernel
theorem dL_acts_1248 : decode cL_acts 1248 = .ok (.iload 8, 2) := by decide +kernel
theorem dL_acts_1250 : decode cL_acts 1250 = .ok (.iconst 3, 1) := by decide +kernel
theorem dL_acts_1251 : decode cL_acts 1251 = .ok (.invokevirtual 27, 3) := by decide +kernel
theorem dL_acts_1254 : decode cL_acts 1254 = .ok (.ifCond .ne 7, 3) := by decide +kernel
theorem dL_acts_1257 : decode cL_acts 1257 = .ok (.iconst 1, 1) := by decide +kernel
theorem dL_acts_1258 : decode cL_acts 1258 = .ok (.goto 4, 3) := by decide +kernel
theorem dL_acts_1261 : decode cL_acts 1261 = .ok (.iconst 0, 1) := by decide +kernel
theorem dL_acts_1262 : decode cL_acts 1262 = .ok (.ireturn, 1) := by decide +kernel
theorem dL_acts_1263 : decode cL_acts 1263 = .ok (.aload_n 0, 1) := by decide +kernel
theorem dL_acts_1264 : decode cL_acts 1264 = .ok (.iconst 1, 1) := by decide +kernel
theorem dL_acts_1265 : decode cL_acts 1265 = .ok (.invokevirtual 11, 3) := by decide +kernel
theorem dL_acts_1268 : decode cL_acts 1268 = .ok (.istore 11, 2) := by decide +kernel
theorem dL_acts_1270 : decode cL_acts 1270 = .ok (.aload_n 0, 1) := by decide +kernel
theorem dL_acts_1271 : decode cL_acts 1271 = .ok (.iload_n 2, 1) := by decide +kernel
theorem dL_acts_1272 : decode cL_acts 1272 = .ok (.invokestatic 88, 3) := by decide +kernel
theorem dL_acts_1275 : decode cL_acts 1275 = .ok (.istore 12, 2) := by decide +kernel
theorem dL_acts_1277 : decode cL_acts 1277 = .ok (.aload_n 0, 1) := by decide +kernel
theorem dL_acts_1278 : decode cL_acts 1278 = .ok (.bipush 11, 2) := by decide +kernel
theorem dL_acts_1280 : decode cL_acts 1280 = .ok (.invokevirtual 11, 3) := by decide +kernel
theorem dL_acts_1283 : decode cL_acts 1283 = .ok (.istore 13, 2) := by decide +kernel
theorem dL_acts_1285 : decode cL_acts 1285 = .ok (.aload_n 0, 1) := by decide +kernel
theorem dL_acts_1286 : decode cL_acts 1286 = .ok (.invokevirtual 91, 3) := by decide +kernel
theorem dL_acts_1289 : decode cL_acts 1289 = .ok (.istore 14, 2) := by decide +kernel
theorem dL_acts_1291 : decode cL_acts 1291 = .ok (.iload 12, 2) := by decide +kernel
theorem dL_acts_1293 : decode cL_acts 1293 = .ok (.ifCond .eq 86, 3) := by decide +kernel
theorem dL_acts_1296 : decode cL_acts 1296 = .ok (.aload_n 0, 1) := by decide +kernel
theorem dL_acts_1297 : decode cL_acts 1297 = .ok (.bipush 11, 2) := by decide +kernel
theorem dL_acts_1299 : decode cL_acts 1299 = .ok (.invokevirtual 11, 3) := by decide +kernel
theorem dL_acts_1302 : decode cL_acts 1302 = .ok (.iload 13, 2) := by decide +kernel
theorem dL_acts_1304 : decode cL_acts 1304 = .ok (.if_icmp .ne 75, 3) := by decide +kernel
theorem dL_acts_1307 : decode cL_acts 1307 = .ok (.iload 14, 2) := by decide +kernel
theorem dL_acts_1309 : decode cL_acts 1309 = .ok (.ifCond .le 26, 3) := by decide +kernel
theorem dL_acts_1312 : decode cL_acts 1312 = .ok (.iload 14, 2) := by decide +kernel
theorem dL_acts_1314 : decode cL_acts 1314 = .ok (.bipush 15, 2) := by decide +kernel
theorem dL_acts_1316 : decode cL_acts 1316 = .ok (.if_icmp .gt 63, 3) := by decide +kernel
theorem dL_acts_1319 : decode cL_acts 1319 = .ok (.aload_n 0, 1) := by decide +kernel
theorem dL_acts_1320 : decode cL_acts 1320 = .ok (.iconst 1, 1) := by decide +kernel
theorem dL_acts_1321 : decode cL_acts 1321 = .ok (.invokevirtual 11, 3) := by decide +kernel
theorem dL_acts_1324 : decode cL_acts 1324 = .ok (.iload 11, 2) := by decide +kernel
theorem dL_acts_1326 : decode cL_acts 1326 = .ok (.iload 14, 2) := by decide +kernel
theorem dL_acts_1328 : decode cL_acts 1328 = .ok (.iadd, 1) := by decide +kernel
theorem dL_acts_1329 : decode cL_acts 1329 = .ok (.if_icmp .ne 50, 3) := by decide +kernel
theorem dL_acts_1332 : decode cL_acts 1332 = .ok (.goto 43, 3) := by decide +kernel
theorem dL_acts_1335 : decode cL_acts 1335 = .ok (.iload 14, 2) := by decide +kernel
theorem dL_acts_1337 : decode cL_acts 1337 = .ok (.iconst (-1), 1) := by decide +kernel
theorem dL_acts_1338 : decode cL_acts 1338 = .ok (.if_icmp .eq 27, 3) := by decide +kernel
theorem dL_acts_1341 : decode cL_acts 1341 = .ok (.iload 14, 2) := by decide +kernel
theorem dL_acts_1343 : decode cL_acts 1343 = .ok (.bipush (-3), 2) := by decide +kernel
theorem dL_acts_1345 : decode cL_acts 1345 = .ok (.if_icmp .eq 20, 3) := by decide +kernel
theorem dL_acts_1348 : decode cL_acts 1348 = .ok (.iload 14, 2) := by decide +kernel
theorem dL_acts_1350 : decode cL_acts 1350 = .ok (.bipush (-100), 2) := by decide +kernel
theorem dL_acts_1352 : decode cL_acts 1352 = .ok (.if_icmp .gt 27, 3) := by decide +kernel
theorem dL_acts_1355 : decode cL_acts 1355 = .ok (.iload 14, 2) := by decide +kernel
theorem dL_acts_1357 : decode cL_acts 1357 = .ok (.bipush (-100), 2) := by decide +kernel
theorem dL_acts_1359 : decode cL_acts 1359 = .ok (.iload 13, 2) := by decide +kernel
theorem dL_acts_1361 : decode cL_acts 1361 = .ok (.isub, 1) := by decide +kernel
theorem dL_acts_1362 : decode cL_acts 1362 = .ok (.if_icmp .lt 17, 3) := by decide +kernel
theorem dL_acts_1365 : decode cL_acts 1365 = .ok (.aload_n 0, 1) := by decide +kernel
theorem dL_acts_1366 : decode cL_acts 1366 = .ok (.iconst 1, 1) := by decide +kernel
theorem dL_acts_1367 : decode cL_acts 1367 = .ok (.invokevirtual 11, 3) := by decide +kernel
theorem dL_acts_1370 : decode cL_acts 1370 = .ok (.iload 11, 2) := by decide +kernel
theorem dL_acts_1372 : decode cL_acts 1372 = .ok (.if_icmp .ne 7, 3) := by decide +kernel
theorem dL_acts_1375 : decode cL_acts 1375 = .ok (.iconst 1, 1) := by decide +kernel
theorem dL_acts_1376 : decode cL_acts 1376 = .ok (.goto 4, 3) := by decide +kernel
theorem dL_acts_1379 : decode cL_acts 1379 = .ok (.iconst 0, 1) := by decide +kernel
theorem dL_acts_1380 : decode cL_acts 1380 = .ok (.ireturn, 1) := by decide +kernel
theorem dL_law_0 : decode cL_law 0 = .ok (.new 12, 3) := by decide +kernel
theorem dL_law_3 : decode cL_law 3 = .ok (.dup, 1) := by decide +kernel
theorem dL_law_4 : decode cL_law 4 = .ok (.invokespecial 94, 3) := by decide +kernel
theorem dL_law_7 : decode cL_law 7 = .ok (.astore_n 1, 1) := by decide +kernel
theorem dL_law_8 : decode cL_law 8 = .ok (.aload_n 1, 1) := by decide +kernel
theorem dL_law_9 : decode cL_law 9 = .ok (.invokestatic 95, 3) := by decide +kernel
theorem dL_law_12 : decode cL_law 12 = .ok (.ifCond .eq 33, 3) := by decide +kernel
theorem dL_law_15 : decode cL_law 15 = .ok (.aload_n 1, 1) := by decide +kernel
theorem dL_law_16 : decode cL_law 16 = .ok (.iconst 0, 1) := by decide +kernel
theorem dL_law_17 : decode cL_law 17 = .ok (.invokestatic 99, 3) := by decide +kernel
theorem dL_law_20 : decode cL_law 20 = .ok (.ifCond .eq 25, 3) := by decide +kernel
theorem dL_law_23 : decode cL_law 23 = .ok (.aload_n 1, 1) := by decide +kernel
theorem dL_law_24 : decode cL_law 24 = .ok (.invokevirtual 102, 3) := by decide +kernel
theorem dL_law_27 : decode cL_law 27 = .ok (.bipush (-5), 2) := by decide +kernel
theorem dL_law_29 : decode cL_law 29 = .ok (.if_icmp .ne 16, 3) := by decide +kernel
theorem dL_law_32 : decode cL_law 32 = .ok (.aload_n 1, 1) := by decide +kernel
theorem dL_law_33 : decode cL_law 33 = .ok (.invokevirtual 105, 3) := by decide +kernel
theorem dL_law_36 : decode cL_law 36 = .ok (.bipush (-5), 2) := by decide +kernel
theorem dL_law_38 : decode cL_law 38 = .ok (.if_icmp .ne 7, 3) := by decide +kernel
theorem dL_law_41 : decode cL_law 41 = .ok (.iconst 1, 1) := by decide +kernel
theorem dL_law_42 : decode cL_law 42 = .ok (.goto 4, 3) := by decide +kernel
theorem dL_law_45 : decode cL_law 45 = .ok (.iconst 0, 1) := by decide +kernel
theorem dL_law_46 : decode cL_law 46 = .ok (.istore_n 2, 1) := by decide +kernel
theorem dL_law_47 : decode cL_law 47 = .ok (.iconst 0, 1) := by decide +kernel
theorem dL_law_48 : decode cL_law 48 = .ok (.istore_n 3, 1) := by decide +kernel
theorem dL_law_49 : decode cL_law 49 = .ok (.iload_n 3, 1) := by decide +kernel
theorem dL_law_50 : decode cL_law 50 = .ok (.bipush 52, 2) := by decide +kernel
theorem dL_law_52 : decode cL_law 52 = .ok (.if_icmp .ge 319, 3) := by decide +kernel
theorem dL_law_55 : decode cL_law 55 = .ok (.iload_n 2, 1) := by decide +kernel
theorem dL_law_56 : decode cL_law 56 = .ok (.ifCond .eq 315, 3) := by decide +kernel
theorem dL_law_59 : decode cL_law 59 = .ok (.iload_n 3, 1) := by decide +kernel
theorem dL_law_60 : decode cL_law 60 = .ok (.iconst 5, 1) := by decide +kernel
theorem dL_law_61 : decode cL_law 61 = .ok (.if_icmp .ge 7, 3) := by decide +kernel
theorem dL_law_64 : decode cL_law 64 = .ok (.iconst 0, 1) := by decide +kernel
theorem dL_law_65 : decode cL_law 65 = .ok (.goto 20, 3) := by decide +kernel
theorem dL_law_68 : decode cL_law 68 = .ok (.iload_n 3, 1) := by decide +kernel
theorem dL_law_69 : decode cL_law 69 = .ok (.bipush 11, 2) := by decide +kernel
theorem dL_law_71 : decode cL_law 71 = .ok (.if_icmp .ge 7, 3) := by decide +kernel
theorem dL_law_74 : decode cL_law 74 = .ok (.iconst 3, 1) := by decide +kernel
theorem dL_law_75 : decode cL_law 75 = .ok (.goto 10, 3) := by decide +kernel
theorem dL_law_78 : decode cL_law 78 = .ok (.aload_n 0, 1) := by decide +kernel
theorem dL_law_79 : decode cL_law 79 = .ok (.iconst 2, 1) := by decide +kernel
theorem dL_law_80 : decode cL_law 80 = .ok (.iload_n 3, 1) := by decide +kernel
theorem dL_law_81 : decode cL_law 81 = .ok (.imul, 1) := by decide +kernel
theorem dL_law_82 : decode cL_law 82 = .ok (.invokestatic 108, 3) := by decide +kernel
theorem dL_law_85 : decode cL_law 85 = .ok (.istore 4, 2) := by decide +kernel
theorem dL_law_87 : decode cL_law 87 = .ok (.aload_n 0, 1) := by decide +kernel
theorem dL_law_88 : decode cL_law 88 = .ok (.iconst 2, 1) := by decide +kernel
theorem dL_law_89 : decode cL_law 89 = .ok (.iload_n 3, 1) := by decide +kernel
theorem dL_law_90 : decode cL_law 90 = .ok (.imul, 1) := by decide +kernel
theorem dL_law_91 : decode cL_law 91 = .ok (.iconst 1, 1) := by decide +kernel
theorem dL_law_92 : decode cL_law 92 = .ok (.iadd, 1) := by decide +kernel
theorem dL_law_93 : decode cL_law 93 = .ok (.invokestatic 108, 3) := by decide +kernel
theorem dL_law_96 : decode cL_law 96 = .ok (.istore 5, 2) := by decide +kernel
theorem dL_law_98 : decode cL_law 98 = .ok (.aload_n 1, 1) := by decide +kernel
theorem dL_law_99 : decode cL_law 99 = .ok (.invokestatic 112, 3) := by decide +kernel
theorem dL_law_102 : decode cL_law 102 = .ok (.lstore 6, 2) := by decide +kernel
theorem dL_law_104 : decode cL_law 104 = .ok (.aload_n 1, 1) := by decide +kernel
theorem dL_law_105 : decode cL_law 105 = .ok (.bipush 10, 2) := by decide +kernel
theorem dL_law_107 : decode cL_law 107 = .ok (.invokevirtual 11, 3) := by decide +kernel
theorem dL_law_110 : decode cL_law 110 = .ok (.istore 8, 2) := by decide +kernel
theorem dL_law_112 : decode cL_law 112 = .ok (.aload_n 1, 1) := by decide +kernel
theorem dL_law_113 : decode cL_law 113 = .ok (.iload 4, 2) := by decide +kernel
theorem dL_law_115 : decode cL_law 115 = .ok (.iload 5, 2) := by decide +kernel
theorem dL_law_117 : decode cL_law 117 = .ok (.invokestatic 116, 3) := by decide +kernel
theorem dL_law_120 : decode cL_law 120 = .ok (.ifCond .eq 37, 3) := by decide +kernel
theorem dL_law_123 : decode cL_law 123 = .ok (.iload_n 3, 1) := by decide +kernel
theorem dL_law_124 : decode cL_law 124 = .ok (.iconst 3, 1) := by decide +kernel
theorem dL_law_125 : decode cL_law 125 = .ok (.irem, 1) := by decide +kernel
theorem dL_law_126 : decode cL_law 126 = .ok (.ifCond .gt 10, 3) := by decide +kernel
theorem dL_law_129 : decode cL_law 129 = .ok (.aload_n 1, 1) := by decide +kernel
theorem dL_law_130 : decode cL_law 130 = .ok (.invokestatic 95, 3) := by decide +kernel
theorem dL_law_133 : decode cL_law 133 = .ok (.ifCond .eq 24, 3) := by decide +kernel
theorem dL_law_136 : decode cL_law 136 = .ok (.iload_n 3, 1) := by decide +kernel
theorem dL_law_137 : decode cL_law 137 = .ok (.bipush 8, 2) := by decide +kernel
theorem dL_law_139 : decode cL_law 139 = .ok (.irem, 1) := by decide +kernel
theorem dL_law_140 : decode cL_law 140 = .ok (.iconst 5, 1) := by decide +kernel
theorem dL_law_141 : decode cL_law 141 = .ok (.if_icmp .ne 12, 3) := by decide +kernel
theorem dL_law_144 : decode cL_law 144 = .ok (.aload_n 1, 1) := by decide +kernel
theorem dL_law_145 : decode cL_law 145 = .ok (.iload 5, 2) := by decide +kernel
theorem dL_law_147 : decode cL_law 147 = .ok (.invokestatic 99, 3) := by decide +kernel
theorem dL_law_150 : decode cL_law 150 = .ok (.ifCond .eq 7, 3) := by decide +kernel
theorem dL_law_153 : decode cL_law 153 = .ok (.iconst 1, 1) := by decide +kernel
theorem dL_law_154 : decode cL_law 154 = .ok (.goto 4, 3) := by decide +kernel
theorem dL_law_157 : decode cL_law 157 = .ok (.iconst 0, 1) := by decide +kernel
theorem dL_law_158 : decode cL_law 158 = .ok (.istore_n 2, 1) := by decide +kernel
theorem dL_law_159 : decode cL_law 159 = .ok (.aload_n 1, 1) := by decide +kernel
theorem dL_law_160 : decode cL_law 160 = .ok (.bipush 10, 2) := by decide +kernel
theorem dL_law_162 : decode cL_law 162 = .ok (.invokevirtual 11, 3) := by decide +kernel
theorem dL_law_165 : decode cL_law 165 = .ok (.istore 9, 2) := by decide +kernel
theorem dL_law_167 : decode cL_law 167 = .ok (.iload_n 2, 1) := by decide +kernel
theorem dL_law_168 : decode cL_law 168 = .ok (.ifCond .eq 39, 3) := by decide +kernel
theorem dL_law_171 : decode cL_law 171 = .ok (.iload 9, 2) := by decide +kernel
theorem dL_law_173 : decode cL_law 173 = .ok (.iload 8, 2) := by decide +kernel
theorem dL_law_175 : decode cL_law 175 = .ok (.if_icmp .ne 19, 3) := by decide +kernel
theorem dL_law_178 : decode cL_law 178 = .ok (.iload 8, 2) := by decide +kernel
theorem dL_law_180 : decode cL_law 180 = .ok (.iconst 4, 1) := by decide +kernel
theorem dL_law_181 : decode cL_law 181 = .ok (.if_icmp .eq 22, 3) := by decide +kernel
theorem dL_law_184 : decode cL_law 184 = .ok (.aload_n 1, 1) := by decide +kernel
theorem dL_law_185 : decode cL_law 185 = .ok (.invokestatic 112, 3) := by decide +kernel
theorem dL_law_188 : decode cL_law 188 = .ok (.lload 6, 2) := by decide +kernel
theorem dL_law_190 : decode cL_law 190 = .ok (.lcmp, 1) := by decide +kernel
theorem dL_law_191 : decode cL_law 191 = .ok (.ifCond .eq 12, 3) := by decide +kernel
theorem dL_law_194 : decode cL_law 194 = .ok (.iload 9, 2) := by decide +kernel
theorem dL_law_196 : decode cL_law 196 = .ok (.iload 8, 2) := by decide +kernel
theorem dL_law_198 : decode cL_law 198 = .ok (.iconst 1, 1) := by decide +kernel
theorem dL_law_199 : decode cL_law 199 = .ok (.iadd, 1) := by decide +kernel
theorem dL_law_200 : decode cL_law 200 = .ok (.if_icmp .ne 7, 3) := by decide +kernel
theorem dL_law_203 : decode cL_law 203 = .ok (.iconst 1, 1) := by decide +kernel
theorem dL_law_204 : decode cL_law 204 = .ok (.goto 4, 3) := by decide +kernel
theorem dL_law_207 : decode cL_law 207 = .ok (.iconst 0, 1) := by decide +kernel
theorem dL_law_208 : decode cL_law 208 = .ok (.istore_n 2, 1) := by decide +kernel
theorem dL_law_209 : decode cL_law 209 = .ok (.iload_n 2, 1) := by decide +kernel
theorem dL_law_210 : decode cL_law 210 = .ok (.ifCond .eq 49, 3) := by decide +kernel
theorem dL_law_213 : decode cL_law 213 = .ok (.iload 9, 2) := by decide +kernel
theorem dL_law_215 : decode cL_law 215 = .ok (.iload 8, 2) := by decide +kernel
theorem dL_law_217 : decode cL_law 217 = .ok (.iconst 1, 1) := by decide +kernel
theorem dL_law_218 : decode cL_law 218 = .ok (.iadd, 1) := by decide +kernel
theorem dL_law_219 : decode cL_law 219 = .ok (.if_icmp .ne 40, 3) := by decide +kernel
theorem dL_law_222 : decode cL_law 222 = .ok (.iload 5, 2) := by decide +kernel
theorem dL_law_224 : decode cL_law 224 = .ok (.bipush 8, 2) := by decide +kernel
theorem dL_law_226 : decode cL_law 226 = .ok (.ishr, 1) := by decide +kernel
theorem dL_law_227 : decode cL_law 227 = .ok (.iconst 3, 1) := by decide +kernel
theorem dL_law_228 : decode cL_law 228 = .ok (.invokestatic 35, 3) := by decide +kernel
theorem dL_law_231 : decode cL_law 231 = .ok (.ifCond .ne 28, 3) := by decide +kernel
theorem dL_law_234 : decode cL_law 234 = .ok (.aload_n 1, 1) := by decide +kernel
theorem dL_law_235 : decode cL_law 235 = .ok (.invokevirtual 102, 3) := by decide +kernel
theorem dL_law_238 : decode cL_law 238 = .ok (.iload 8, 2) := by decide +kernel
theorem dL_law_240 : decode cL_law 240 = .ok (.if_icmp .ne 17, 3) := by decide +kernel
theorem dL_law_243 : decode cL_law 243 = .ok (.aload_n 1, 1) := by decide +kernel
theorem dL_law_244 : decode cL_law 244 = .ok (.invokestatic 112, 3) := by decide +kernel
theorem dL_law_247 : decode cL_law 247 = .ok (.lload 6, 2) := by decide +kernel
theorem dL_law_249 : decode cL_law 249 = .ok (.lcmp, 1) := by decide +kernel
theorem dL_law_250 : decode cL_law 250 = .ok (.ifCond .ne 7, 3) := by decide +kernel
theorem dL_law_253 : decode cL_law 253 = .ok (.iconst 1, 1) := by decide +kernel
theorem dL_law_254 : decode cL_law 254 = .ok (.goto 4, 3) := by decide +kernel
theorem dL_law_257 : decode cL_law 257 = .ok (.iconst 0, 1) := by decide +kernel
theorem dL_law_258 : decode cL_law 258 = .ok (.istore_n 2, 1) := by decide +kernel
theorem dL_law_259 : decode cL_law 259 = .ok (.iload_n 2, 1) := by decide +kernel
theorem dL_law_260 : decode cL_law 260 = .ok (.ifCond .eq 57, 3) := by decide +kernel
theorem dL_law_263 : decode cL_law 263 = .ok (.iload_n 3, 1) := by decide +kernel
theorem dL_law_264 : decode cL_law 264 = .ok (.bipush 12, 2) := by decide +kernel
theorem dL_law_266 : decode cL_law 266 = .ok (.irem, 1) := by decide +kernel
theorem dL_law_267 : decode cL_law 267 = .ok (.bipush 7, 2) := by decide +kernel
theorem dL_law_269 : decode cL_law 269 = .ok (.if_icmp .ne 48, 3) := by decide +kernel
theorem dL_law_272 : decode cL_law 272 = .ok (.iload 5, 2) := by decide +kernel
theorem dL_law_274 : decode cL_law 274 = .ok (.iconst 2, 1) := by decide +kernel
theorem dL_law_275 : decode cL_law 275 = .ok (.invokestatic 35, 3) := by decide +kernel
theorem dL_law_278 : decode cL_law 278 = .ok (.ifCond .ne 10, 3) := by decide +kernel
theorem dL_law_281 : decode cL_law 281 = .ok (.aload_n 1, 1) := by decide +kernel
theorem dL_law_282 : decode cL_law 282 = .ok (.invokevirtual 105, 3) := by decide +kernel
theorem dL_law_285 : decode cL_law 285 = .ok (.goto 7, 3) := by decide +kernel
theorem dL_law_288 : decode cL_law 288 = .ok (.aload_n 1, 1) := by decide +kernel
theorem dL_law_289 : decode cL_law 289 = .ok (.invokevirtual 119, 3) := by decide +kernel
theorem dL_law_292 : decode cL_law 292 = .ok (.istore 10, 2) := by decide +kernel
theorem dL_law_294 : decode cL_law 294 = .ok (.iload 10, 2) := by decide +kernel
theorem dL_law_296 : decode cL_law 296 = .ok (.bipush (-5), 2) := by decide +kernel
theorem dL_law_298 : decode cL_law 298 = .ok (.if_icmp .eq 13, 3) := by decide +kernel
theorem dL_law_301 : decode cL_law 301 = .ok (.iload 10, 2) := by decide +kernel
theorem dL_law_303 : decode cL_law 303 = .ok (.aload_n 1, 1) := by decide +kernel
theorem dL_law_304 : decode cL_law 304 = .ok (.iconst 0, 1) := by decide +kernel
theorem dL_law_305 : decode cL_law 305 = .ok (.invokevirtual 11, 3) := by decide +kernel
theorem dL_law_308 : decode cL_law 308 = .ok (.if_icmp .ne 7, 3) := by decide +kernel
theorem dL_law_311 : decode cL_law 311 = .ok (.iconst 1, 1) := by decide +kernel
theorem dL_law_312 : decode cL_law 312 = .ok (.goto 4, 3) := by decide +kernel
theorem dL_law_315 : decode cL_law 315 = .ok (.iconst 0, 1) := by decide +kernel
theorem dL_law_316 : decode cL_law 316 = .ok (.istore_n 2, 1) := by decide +kernel
theorem dL_law_317 : decode cL_law 317 = .ok (.iload_n 2, 1) := by decide +kernel
theorem dL_law_318 : decode cL_law 318 = .ok (.ifCond .eq 47, 3) := by decide +kernel
theorem dL_law_321 : decode cL_law 321 = .ok (.iload_n 3, 1) := by decide +kernel
theorem dL_law_322 : decode cL_law 322 = .ok (.bipush 9, 2) := by decide +kernel
theorem dL_law_324 : decode cL_law 324 = .ok (.irem, 1) := by decide +kernel
theorem dL_law_325 : decode cL_law 325 = .ok (.bipush 8, 2) := by decide +kernel
theorem dL_law_327 : decode cL_law 327 = .ok (.if_icmp .ne 38, 3) := by decide +kernel
theorem dL_law_330 : decode cL_law 330 = .ok (.aload_n 1, 1) := by decide +kernel
theorem dL_law_331 : decode cL_law 331 = .ok (.bipush 10, 2) := by decide +kernel
theorem dL_law_333 : decode cL_law 333 = .ok (.invokevirtual 11, 3) := by decide +kernel
theorem dL_law_336 : decode cL_law 336 = .ok (.istore 10, 2) := by decide +kernel
theorem dL_law_338 : decode cL_law 338 = .ok (.aload_n 1, 1) := by decide +kernel
theorem dL_law_339 : decode cL_law 339 = .ok (.invokevirtual 102, 3) := by decide +kernel
theorem dL_law_342 : decode cL_law 342 = .ok (.iload 10, 2) := by decide +kernel
theorem dL_law_344 : decode cL_law 344 = .ok (.ifCond .ne 8, 3) := by decide +kernel
theorem dL_law_347 : decode cL_law 347 = .ok (.bipush (-5), 2) := by decide +kernel
theorem dL_law_349 : decode cL_law 349 = .ok (.goto 7, 3) := by decide +kernel
theorem dL_law_352 : decode cL_law 352 = .ok (.iload 10, 2) := by decide +kernel
theorem dL_law_354 : decode cL_law 354 = .ok (.iconst 1, 1) := by decide +kernel
theorem dL_law_355 : decode cL_law 355 = .ok (.isub, 1) := by decide +kernel
theorem dL_law_356 : decode cL_law 356 = .ok (.if_icmp .ne 7, 3) := by decide +kernel
theorem dL_law_359 : decode cL_law 359 = .ok (.iconst 1, 1) := by decide +kernel
theorem dL_law_360 : decode cL_law 360 = .ok (.goto 4, 3) := by decide +kernel
theorem dL_law_363 : decode cL_law 363 = .ok (.iconst 0, 1) := by decide +kernel
theorem dL_law_364 : decode cL_law 364 = .ok (.istore_n 2, 1) := by decide +kernel
theorem dL_law_365 : decode cL_law 365 = .ok (.iinc 3 1, 3) := by decide +kernel
theorem dL_law_368 : decode cL_law 368 = .ok (.goto (-319), 3) := by decide +kernel
theorem dL_law_371 : decode cL_law 371 = .ok (.iload_n 2, 1) := by decide +kernel
theorem dL_law_372 : decode cL_law 372 = .ok (.ifCond .eq 14, 3) := by decide +kernel
theorem dL_law_375 : decode cL_law 375 = .ok (.aload_n 1, 1) := by decide +kernel
theorem dL_law_376 : decode cL_law 376 = .ok (.invokestatic 95, 3) := by decide +kernel
theorem dL_law_379 : decode cL_law 379 = .ok (.ifCond .eq 7, 3) := by decide +kernel
theorem dL_law_382 : decode cL_law 382 = .ok (.iconst 1, 1) := by decide +kernel
theorem dL_law_383 : decode cL_law 383 = .ok (.goto 4, 3) := by decide +kernel
theorem dL_law_386 : decode cL_law 386 = .ok (.iconst 0, 1) := by decide +kernel
theorem dL_law_387 : decode cL_law 387 = .ok (.ireturn, 1) := by decide +kernel

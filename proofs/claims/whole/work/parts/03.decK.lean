theorem dX0_init_0 : decode cX0_init 0 = .ok (.aload_n 0, 1) := by decide +kernel
theorem dX0_init_1 : decode cX0_init 1 = .ok (.invokespecial 1, 3) := by decide +kernel
theorem dX0_init_4 : decode cX0_init 4 = .ok (.aload_n 0, 1) := by decide +kernel
theorem dX0_init_5 : decode cX0_init 5 = .ok (.iload_n 1, 1) := by decide +kernel
theorem dX0_init_6 : decode cX0_init 6 = .ok (.iload_n 2, 1) := by decide +kernel
theorem dX0_init_7 : decode cX0_init 7 = .ok (.imul, 1) := by decide +kernel
theorem dX0_init_8 : decode cX0_init 8 = .ok (.iconst 0, 1) := by decide +kernel
theorem dX0_init_9 : decode cX0_init 9 = .ok (.invokestatic 7, 3) := by decide +kernel
theorem dX0_init_12 : decode cX0_init 12 = .ok (.newarray .int, 2) := by decide +kernel
theorem dX0_init_14 : decode cX0_init 14 = .ok (.putfield 13, 3) := by decide +kernel
theorem dX0_init_17 : decode cX0_init 17 = .ok (.aload_n 0, 1) := by decide +kernel
theorem dX0_init_18 : decode cX0_init 18 = .ok (.iload_n 2, 1) := by decide +kernel
theorem dX0_init_19 : decode cX0_init 19 = .ok (.putfield 19, 3) := by decide +kernel
theorem dX0_init_22 : decode cX0_init 22 = .ok (.return_, 1) := by decide +kernel
theorem dX0_at_0 : decode cX0_at 0 = .ok (.iload_n 2, 1) := by decide +kernel
theorem dX0_at_1 : decode cX0_at 1 = .ok (.ifCond .lt 11, 3) := by decide +kernel
theorem dX0_at_4 : decode cX0_at 4 = .ok (.iload_n 2, 1) := by decide +kernel
theorem dX0_at_5 : decode cX0_at 5 = .ok (.aload_n 0, 1) := by decide +kernel
theorem dX0_at_6 : decode cX0_at 6 = .ok (.getfield 19, 3) := by decide +kernel
theorem dX0_at_9 : decode cX0_at 9 = .ok (.if_icmp .lt 5, 3) := by decide +kernel
theorem dX0_at_12 : decode cX0_at 12 = .ok (.iconst 0, 1) := by decide +kernel
theorem dX0_at_13 : decode cX0_at 13 = .ok (.ireturn, 1) := by decide +kernel
theorem dX0_at_14 : decode cX0_at 14 = .ok (.iload_n 1, 1) := by decide +kernel
theorem dX0_at_15 : decode cX0_at 15 = .ok (.aload_n 0, 1) := by decide +kernel
theorem dX0_at_16 : decode cX0_at 16 = .ok (.getfield 19, 3) := by decide +kernel
theorem dX0_at_19 : decode cX0_at 19 = .ok (.imul, 1) := by decide +kernel
theorem dX0_at_20 : decode cX0_at 20 = .ok (.iload_n 2, 1) := by decide +kernel
theorem dX0_at_21 : decode cX0_at 21 = .ok (.iadd, 1) := by decide +kernel
theorem dX0_at_22 : decode cX0_at 22 = .ok (.istore_n 3, 1) := by decide +kernel
theorem dX0_at_23 : decode cX0_at 23 = .ok (.iload_n 3, 1) := by decide +kernel
theorem dX0_at_24 : decode cX0_at 24 = .ok (.ifCond .lt 21, 3) := by decide +kernel
theorem dX0_at_27 : decode cX0_at 27 = .ok (.iload_n 3, 1) := by decide +kernel
theorem dX0_at_28 : decode cX0_at 28 = .ok (.aload_n 0, 1) := by decide +kernel
theorem dX0_at_29 : decode cX0_at 29 = .ok (.getfield 13, 3) := by decide +kernel
theorem dX0_at_32 : decode cX0_at 32 = .ok (.arraylength, 1) := by decide +kernel
theorem dX0_at_33 : decode cX0_at 33 = .ok (.if_icmp .ge 12, 3) := by decide +kernel
theorem dX0_at_36 : decode cX0_at 36 = .ok (.aload_n 0, 1) := by decide +kernel
theorem dX0_at_37 : decode cX0_at 37 = .ok (.getfield 13, 3) := by decide +kernel
theorem dX0_at_40 : decode cX0_at 40 = .ok (.iload_n 3, 1) := by decide +kernel
theorem dX0_at_41 : decode cX0_at 41 = .ok (.iaload, 1) := by decide +kernel
theorem dX0_at_42 : decode cX0_at 42 = .ok (.goto 4, 3) := by decide +kernel
theorem dX0_at_45 : decode cX0_at 45 = .ok (.iconst 0, 1) := by decide +kernel
theorem dX0_at_46 : decode cX0_at 46 = .ok (.ireturn, 1) := by decide +kernel
theorem dX0_put_0 : decode cX0_put 0 = .ok (.iload_n 2, 1) := by decide +kernel
theorem dX0_put_1 : decode cX0_put 1 = .ok (.ifCond .lt 11, 3) := by decide +kernel
theorem dX0_put_4 : decode cX0_put 4 = .ok (.iload_n 2, 1) := by decide +kernel
theorem dX0_put_5 : decode cX0_put 5 = .ok (.aload_n 0, 1) := by decide +kernel
theorem dX0_put_6 : decode cX0_put 6 = .ok (.getfield 19, 3) := by decide +kernel
theorem dX0_put_9 : decode cX0_put 9 = .ok (.if_icmp .lt 4, 3) := by decide +kernel
theorem dX0_put_12 : decode cX0_put 12 = .ok (.return_, 1) := by decide +kernel
theorem dX0_put_13 : decode cX0_put 13 = .ok (.iload_n 1, 1) := by decide +kernel
theorem dX0_put_14 : decode cX0_put 14 = .ok (.aload_n 0, 1) := by decide +kernel
theorem dX0_put_15 : decode cX0_put 15 = .ok (.getfield 19, 3) := by decide +kernel
theorem dX0_put_18 : decode cX0_put 18 = .ok (.imul, 1) := by decide +kernel
theorem dX0_put_19 : decode cX0_put 19 = .ok (.iload_n 2, 1) := by decide +kernel
theorem dX0_put_20 : decode cX0_put 20 = .ok (.iadd, 1) := by decide +kernel
theorem dX0_put_21 : decode cX0_put 21 = .ok (.istore 4, 2) := by decide +kernel
theorem dX0_put_23 : decode cX0_put 23 = .ok (.iload 4, 2) := by decide +kernel
theorem dX0_put_25 : decode cX0_put 25 = .ok (.ifCond .lt 21, 3) := by decide +kernel
theorem dX0_put_28 : decode cX0_put 28 = .ok (.iload 4, 2) := by decide +kernel
theorem dX0_put_30 : decode cX0_put 30 = .ok (.aload_n 0, 1) := by decide +kernel
theorem dX0_put_31 : decode cX0_put 31 = .ok (.getfield 13, 3) := by decide +kernel
theorem dX0_put_34 : decode cX0_put 34 = .ok (.arraylength, 1) := by decide +kernel
theorem dX0_put_35 : decode cX0_put 35 = .ok (.if_icmp .ge 11, 3) := by decide +kernel
theorem dX0_put_38 : decode cX0_put 38 = .ok (.aload_n 0, 1) := by decide +kernel
theorem dX0_put_39 : decode cX0_put 39 = .ok (.getfield 13, 3) := by decide +kernel
theorem dX0_put_42 : decode cX0_put 42 = .ok (.iload 4, 2) := by decide +kernel
theorem dX0_put_44 : decode cX0_put 44 = .ok (.iload_n 3, 1) := by decide +kernel
theorem dX0_put_45 : decode cX0_put 45 = .ok (.iastore, 1) := by decide +kernel
theorem dX0_put_46 : decode cX0_put 46 = .ok (.return_, 1) := by decide +kernel
set_option maxRecDepth 20000 in
theorem ggX0_filled_X0_at : GoodIn wsX0_filled wsX0_at := goodIn_ca (goodIn_r _ [6, 1, 7, 8, 9] (by decide +kernel) (by decide +kernel)) (goodIn_sub (fun _ h => List.mem_cons_of_mem _ (List.mem_append_right _ h)) (by decide +kernel))
set_option maxRecDepth 20000 in
theorem gX0_filled_X0_at : GoodIn wsX0_filled (wsV RX0 23 RX0 yX0_at wsX0_at) := goodIn_app (goodIn_of _ (by decide +kernel)) ggX0_filled_X0_at
theorem dX0_filled_0 : decode cX0_filled 0 = .ok (.iconst 0, 1) := by decide +kernel
theorem dX0_filled_1 : decode cX0_filled 1 = .ok (.istore_n 2, 1) := by decide +kernel
theorem dX0_filled_2 : decode cX0_filled 2 = .ok (.iconst 0, 1) := by decide +kernel
theorem dX0_filled_3 : decode cX0_filled 3 = .ok (.istore_n 3, 1) := by decide +kernel
theorem dX0_filled_4 : decode cX0_filled 4 = .ok (.iload_n 3, 1) := by decide +kernel
theorem dX0_filled_5 : decode cX0_filled 5 = .ok (.aload_n 0, 1) := by decide +kernel
theorem dX0_filled_6 : decode cX0_filled 6 = .ok (.getfield 19, 3) := by decide +kernel
theorem dX0_filled_9 : decode cX0_filled 9 = .ok (.if_icmp .ge 21, 3) := by decide +kernel
theorem dX0_filled_12 : decode cX0_filled 12 = .ok (.aload_n 0, 1) := by decide +kernel
theorem dX0_filled_13 : decode cX0_filled 13 = .ok (.iload_n 1, 1) := by decide +kernel
theorem dX0_filled_14 : decode cX0_filled 14 = .ok (.iload_n 3, 1) := by decide +kernel
theorem dX0_filled_15 : decode cX0_filled 15 = .ok (.invokevirtual 23, 3) := by decide +kernel
theorem dX0_filled_18 : decode cX0_filled 18 = .ok (.ifCond .eq 6, 3) := by decide +kernel
theorem dX0_filled_21 : decode cX0_filled 21 = .ok (.iinc 2 1, 3) := by decide +kernel
theorem dX0_filled_24 : decode cX0_filled 24 = .ok (.iinc 3 1, 3) := by decide +kernel
theorem dX0_filled_27 : decode cX0_filled 27 = .ok (.goto (-23), 3) := by decide +kernel
theorem dX0_filled_30 : decode cX0_filled 30 = .ok (.iload_n 2, 1) := by decide +kernel
theorem dX0_filled_31 : decode cX0_filled 31 = .ok (.ireturn, 1) := by decide +kernel
theorem dX0_clearUpTo_0 : decode cX0_clearUpTo 0 = .ok (.iconst 0, 1) := by decide +kernel
theorem dX0_clearUpTo_1 : decode cX0_clearUpTo 1 = .ok (.istore_n 2, 1) := by decide +kernel
theorem dX0_clearUpTo_2 : decode cX0_clearUpTo 2 = .ok (.iconst 0, 1) := by decide +kernel
theorem dX0_clearUpTo_3 : decode cX0_clearUpTo 3 = .ok (.istore_n 3, 1) := by decide +kernel
theorem dX0_clearUpTo_4 : decode cX0_clearUpTo 4 = .ok (.iload_n 3, 1) := by decide +kernel
theorem dX0_clearUpTo_5 : decode cX0_clearUpTo 5 = .ok (.aload_n 0, 1) := by decide +kernel
theorem dX0_clearUpTo_6 : decode cX0_clearUpTo 6 = .ok (.getfield 13, 3) := by decide +kernel
theorem dX0_clearUpTo_9 : decode cX0_clearUpTo 9 = .ok (.arraylength, 1) := by decide +kernel
theorem dX0_clearUpTo_10 : decode cX0_clearUpTo 10 = .ok (.if_icmp .ge 38, 3) := by decide +kernel
theorem dX0_clearUpTo_13 : decode cX0_clearUpTo 13 = .ok (.aload_n 0, 1) := by decide +kernel
theorem dX0_clearUpTo_14 : decode cX0_clearUpTo 14 = .ok (.getfield 13, 3) := by decide +kernel
theorem dX0_clearUpTo_17 : decode cX0_clearUpTo 17 = .ok (.iload_n 3, 1) := by decide +kernel
theorem dX0_clearUpTo_18 : decode cX0_clearUpTo 18 = .ok (.iaload, 1) := by decide +kernel
theorem dX0_clearUpTo_19 : decode cX0_clearUpTo 19 = .ok (.ifCond .le 23, 3) := by decide +kernel
theorem dX0_clearUpTo_22 : decode cX0_clearUpTo 22 = .ok (.aload_n 0, 1) := by decide +kernel
theorem dX0_clearUpTo_23 : decode cX0_clearUpTo 23 = .ok (.getfield 13, 3) := by decide +kernel
theorem dX0_clearUpTo_26 : decode cX0_clearUpTo 26 = .ok (.iload_n 3, 1) := by decide +kernel
theorem dX0_clearUpTo_27 : decode cX0_clearUpTo 27 = .ok (.iaload, 1) := by decide +kernel
theorem dX0_clearUpTo_28 : decode cX0_clearUpTo 28 = .ok (.iload_n 1, 1) := by decide +kernel
theorem dX0_clearUpTo_29 : decode cX0_clearUpTo 29 = .ok (.if_icmp .gt 13, 3) := by decide +kernel
theorem dX0_clearUpTo_32 : decode cX0_clearUpTo 32 = .ok (.aload_n 0, 1) := by decide +kernel
theorem dX0_clearUpTo_33 : decode cX0_clearUpTo 33 = .ok (.getfield 13, 3) := by decide +kernel
theorem dX0_clearUpTo_36 : decode cX0_clearUpTo 36 = .ok (.iload_n 3, 1) := by decide +kernel
theorem dX0_clearUpTo_37 : decode cX0_clearUpTo 37 = .ok (.iconst 0, 1) := by decide +kernel
theorem dX0_clearUpTo_38 : decode cX0_clearUpTo 38 = .ok (.iastore, 1) := by decide +kernel
theorem dX0_clearUpTo_39 : decode cX0_clearUpTo 39 = .ok (.iinc 2 1, 3) := by decide +kernel
theorem dX0_clearUpTo_42 : decode cX0_clearUpTo 42 = .ok (.iinc 3 1, 3) := by decide +kernel
theorem dX0_clearUpTo_45 : decode cX0_clearUpTo 45 = .ok (.goto (-41), 3) := by decide +kernel
theorem dX0_clearUpTo_48 : decode cX0_clearUpTo 48 = .ok (.iload_n 2, 1) := by decide +kernel
theorem dX0_clearUpTo_49 : decode cX0_clearUpTo 49 = .ok (.ireturn, 1) := by decide +kernel
theorem dX1_init_0 : decode cX1_init 0 = .ok (.aload_n 0, 1) := by decide +kernel
theorem dX1_init_1 : decode cX1_init 1 = .ok (.invokespecial 1, 3) := by decide +kernel
theorem dX1_init_4 : decode cX1_init 4 = .ok (.aload_n 0, 1) := by decide +kernel
theorem dX1_init_5 : decode cX1_init 5 = .ok (.iload_n 1, 1) := by decide +kernel
theorem dX1_init_6 : decode cX1_init 6 = .ok (.iconst 0, 1) := by decide +kernel
theorem dX1_init_7 : decode cX1_init 7 = .ok (.invokestatic 7, 3) := by decide +kernel
theorem dX1_init_10 : decode cX1_init 10 = .ok (.newarray .int, 2) := by decide +kernel
theorem dX1_init_12 : decode cX1_init 12 = .ok (.putfield 13, 3) := by decide +kernel
theorem dX1_init_15 : decode cX1_init 15 = .ok (.aload_n 0, 1) := by decide +kernel
theorem dX1_init_16 : decode cX1_init 16 = .ok (.iload_n 2, 1) := by decide +kernel
theorem dX1_init_17 : decode cX1_init 17 = .ok (.putfield 19, 3) := by decide +kernel
theorem dX1_init_20 : decode cX1_init 20 = .ok (.iconst 0, 1) := by decide +kernel
theorem dX1_init_21 : decode cX1_init 21 = .ok (.istore_n 3, 1) := by decide +kernel
theorem dX1_init_22 : decode cX1_init 22 = .ok (.iload_n 3, 1) := by decide +kernel
theorem dX1_init_23 : decode cX1_init 23 = .ok (.aload_n 0, 1) := by decide +kernel
theorem dX1_init_24 : decode cX1_init 24 = .ok (.getfield 13, 3) := by decide +kernel
theorem dX1_init_27 : decode cX1_init 27 = .ok (.arraylength, 1) := by decide +kernel
theorem dX1_init_28 : decode cX1_init 28 = .ok (.if_icmp .ge 16, 3) := by decide +kernel
theorem dX1_init_31 : decode cX1_init 31 = .ok (.aload_n 0, 1) := by decide +kernel
theorem dX1_init_32 : decode cX1_init 32 = .ok (.getfield 13, 3) := by decide +kernel
theorem dX1_init_35 : decode cX1_init 35 = .ok (.iload_n 3, 1) := by decide +kernel
theorem dX1_init_36 : decode cX1_init 36 = .ok (.iload_n 2, 1) := by decide +kernel
theorem dX1_init_37 : decode cX1_init 37 = .ok (.iastore, 1) := by decide +kernel
theorem dX1_init_38 : decode cX1_init 38 = .ok (.iinc 3 1, 3) := by decide +kernel
theorem dX1_init_41 : decode cX1_init 41 = .ok (.goto (-19), 3) := by decide +kernel
theorem dX1_init_44 : decode cX1_init 44 = .ok (.return_, 1) := by decide +kernel
theorem dX1_at_0 : decode cX1_at 0 = .ok (.iload_n 1, 1) := by decide +kernel
theorem dX1_at_1 : decode cX1_at 1 = .ok (.ifCond .lt 21, 3) := by decide +kernel
theorem dX1_at_4 : decode cX1_at 4 = .ok (.iload_n 1, 1) := by decide +kernel
theorem dX1_at_5 : decode cX1_at 5 = .ok (.aload_n 0, 1) := by decide +kernel
theorem dX1_at_6 : decode cX1_at 6 = .ok (.getfield 13, 3) := by decide +kernel
theorem dX1_at_9 : decode cX1_at 9 = .ok (.arraylength, 1) := by decide +kernel
theorem dX1_at_10 : decode cX1_at 10 = .ok (.if_icmp .ge 12, 3) := by decide +kernel
theorem dX1_at_13 : decode cX1_at 13 = .ok (.aload_n 0, 1) := by decide +kernel
theorem dX1_at_14 : decode cX1_at 14 = .ok (.getfield 13, 3) := by decide +kernel
theorem dX1_at_17 : decode cX1_at 17 = .ok (.iload_n 1, 1) := by decide +kernel
theorem dX1_at_18 : decode cX1_at 18 = .ok (.iaload, 1) := by decide +kernel
theorem dX1_at_19 : decode cX1_at 19 = .ok (.goto 7, 3) := by decide +kernel
theorem dX1_at_22 : decode cX1_at 22 = .ok (.aload_n 0, 1) := by decide +kernel
theorem dX1_at_23 : decode cX1_at 23 = .ok (.getfield 19, 3) := by decide +kernel
theorem dX1_at_26 : decode cX1_at 26 = .ok (.ireturn, 1) := by decide +kernel
theorem dX1_put_0 : decode cX1_put 0 = .ok (.iload_n 1, 1) := by decide +kernel
theorem dX1_put_1 : decode cX1_put 1 = .ok (.ifCond .lt 19, 3) := by decide +kernel
theorem dX1_put_4 : decode cX1_put 4 = .ok (.iload_n 1, 1) := by decide +kernel
theorem dX1_put_5 : decode cX1_put 5 = .ok (.aload_n 0, 1) := by decide +kernel
theorem dX1_put_6 : decode cX1_put 6 = .ok (.getfield 13, 3) := by decide +kernel
theorem dX1_put_9 : decode cX1_put 9 = .ok (.arraylength, 1) := by decide +kernel
theorem dX1_put_10 : decode cX1_put 10 = .ok (.if_icmp .ge 10, 3) := by decide +kernel
theorem dX1_put_13 : decode cX1_put 13 = .ok (.aload_n 0, 1) := by decide +kernel
theorem dX1_put_14 : decode cX1_put 14 = .ok (.getfield 13, 3) := by decide +kernel
theorem dX1_put_17 : decode cX1_put 17 = .ok (.iload_n 1, 1) := by decide +kernel
theorem dX1_put_18 : decode cX1_put 18 = .ok (.iload_n 2, 1) := by decide +kernel
theorem dX1_put_19 : decode cX1_put 19 = .ok (.iastore, 1) := by decide +kernel
theorem dX1_put_20 : decode cX1_put 20 = .ok (.return_, 1) := by decide +kernel
set_option maxRecDepth 20000 in
theorem ggX2_init_X1_init : GoodIn wsX2_init wsX1_init := goodIn_ca (goodIn_r _ [22, 23, 2, 3, 24, 25, 26, 27, 28, 29, 30, 38, 39] (by decide +kernel) (by decide +kernel)) (goodIn_sub (fun _ h => List.mem_cons_of_mem _ (List.mem_append_right _ h)) (by decide +kernel))
set_option maxRecDepth 20000 in
theorem gX2_init_X1_init : GoodIn wsX2_init (wsX1_init) := ggX2_init_X1_init
set_option maxRecDepth 20000 in
theorem ggX2_init_X0_init : GoodIn wsX2_init wsX0_init := goodIn_r _ [33, 34, 2, 3, 35, 25, 26, 27, 28, 36, 37, 56, 57] (by decide +kernel) (by decide +kernel)
set_option maxRecDepth 20000 in
theorem gX2_init_X0_init : GoodIn wsX2_init (wsX0_init) := ggX2_init_X0_init
theorem dX2_init_0 : decode cX2_init 0 = .ok (.aload_n 0, 1) := by decide +kernel
theorem dX2_init_1 : decode cX2_init 1 = .ok (.invokespecial 1, 3) := by decide +kernel
theorem dX2_init_4 : decode cX2_init 4 = .ok (.aload_n 0, 1) := by decide +kernel
theorem dX2_init_5 : decode cX2_init 5 = .ok (.new 7, 3) := by decide +kernel
theorem dX2_init_8 : decode cX2_init 8 = .ok (.dup, 1) := by decide +kernel
theorem dX2_init_9 : decode cX2_init 9 = .ok (.bipush 10, 2) := by decide +kernel
theorem dX2_init_11 : decode cX2_init 11 = .ok (.iconst (-1), 1) := by decide +kernel
theorem dX2_init_12 : decode cX2_init 12 = .ok (.invokespecial 11, 3) := by decide +kernel
theorem dX2_init_15 : decode cX2_init 15 = .ok (.putfield 14, 3) := by decide +kernel
theorem dX2_init_18 : decode cX2_init 18 = .ok (.aload_n 0, 1) := by decide +kernel
theorem dX2_init_19 : decode cX2_init 19 = .ok (.new 7, 3) := by decide +kernel
theorem dX2_init_22 : decode cX2_init 22 = .ok (.dup, 1) := by decide +kernel
theorem dX2_init_23 : decode cX2_init 23 = .ok (.bipush 12, 2) := by decide +kernel
theorem dX2_init_25 : decode cX2_init 25 = .ok (.iconst (-1), 1) := by decide +kernel
theorem dX2_init_26 : decode cX2_init 26 = .ok (.invokespecial 11, 3) := by decide +kernel
theorem dX2_init_29 : decode cX2_init 29 = .ok (.putfield 18, 3) := by decide +kernel
theorem dX2_init_32 : decode cX2_init 32 = .ok (.aload_n 0, 1) := by decide +kernel
theorem dX2_init_33 : decode cX2_init 33 = .ok (.new 7, 3) := by decide +kernel
theorem dX2_init_36 : decode cX2_init 36 = .ok (.dup, 1) := by decide +kernel
theorem dX2_init_37 : decode cX2_init 37 = .ok (.bipush 12, 2) := by decide +kernel
theorem dX2_init_39 : decode cX2_init 39 = .ok (.iconst (-1), 1) := by decide +kernel
theorem dX2_init_40 : decode cX2_init 40 = .ok (.invokespecial 11, 3) := by decide +kernel
theorem dX2_init_43 : decode cX2_init 43 = .ok (.putfield 21, 3) := by decide +kernel
theorem dX2_init_46 : decode cX2_init 46 = .ok (.aload_n 0, 1) := by decide +kernel
theorem dX2_init_47 : decode cX2_init 47 = .ok (.new 7, 3) := by decide +kernel
theorem dX2_init_50 : decode cX2_init 50 = .ok (.dup, 1) := by decide +kernel
theorem dX2_init_51 : decode cX2_init 51 = .ok (.iconst 4, 1) := by decide +kernel
theorem dX2_init_52 : decode cX2_init 52 = .ok (.iconst (-1), 1) := by decide +kernel
theorem dX2_init_53 : decode cX2_init 53 = .ok (.invokespecial 11, 3) := by decide +kernel
theorem dX2_init_56 : decode cX2_init 56 = .ok (.putfield 24, 3) := by decide +kernel
theorem dX2_init_59 : decode cX2_init 59 = .ok (.aload_n 0, 1) := by decide +kernel
theorem dX2_init_60 : decode cX2_init 60 = .ok (.new 27, 3) := by decide +kernel
theorem dX2_init_63 : decode cX2_init 63 = .ok (.dup, 1) := by decide +kernel
theorem dX2_init_64 : decode cX2_init 64 = .ok (.bipush 6, 2) := by decide +kernel
theorem dX2_init_66 : decode cX2_init 66 = .ok (.bipush 10, 2) := by decide +kernel
theorem dX2_init_68 : decode cX2_init 68 = .ok (.invokespecial 29, 3) := by decide +kernel
theorem dX2_init_71 : decode cX2_init 71 = .ok (.putfield 30, 3) := by decide +kernel
theorem dX2_init_74 : decode cX2_init 74 = .ok (.aload_n 0, 1) := by decide +kernel
theorem dX2_init_75 : decode cX2_init 75 = .ok (.new 27, 3) := by decide +kernel
theorem dX2_init_78 : decode cX2_init 78 = .ok (.dup, 1) := by decide +kernel
theorem dX2_init_79 : decode cX2_init 79 = .ok (.bipush 6, 2) := by decide +kernel
theorem dX2_init_81 : decode cX2_init 81 = .ok (.bipush 6, 2) := by decide +kernel
theorem dX2_init_83 : decode cX2_init 83 = .ok (.invokespecial 29, 3) := by decide +kernel
theorem dX2_init_86 : decode cX2_init 86 = .ok (.putfield 34, 3) := by decide +kernel
theorem dX2_init_89 : decode cX2_init 89 = .ok (.aload_n 0, 1) := by decide +kernel
theorem dX2_init_90 : decode cX2_init 90 = .ok (.new 27, 3) := by decide +kernel
theorem dX2_init_93 : decode cX2_init 93 = .ok (.dup, 1) := by decide +kernel
theorem dX2_init_94 : decode cX2_init 94 = .ok (.bipush 12, 2) := by decide +kernel
theorem dX2_init_96 : decode cX2_init 96 = .ok (.bipush 10, 2) := by decide +kernel
theorem dX2_init_98 : decode cX2_init 98 = .ok (.invokespecial 29, 3) := by decide +kernel
theorem dX2_init_101 : decode cX2_init 101 = .ok (.putfield 37, 3) := by decide +kernel
theorem dX2_init_104 : decode cX2_init 104 = .ok (.aload_n 0, 1) := by decide +kernel
theorem dX2_init_105 : decode cX2_init 105 = .ok (.new 27, 3) := by decide +kernel
theorem dX2_init_108 : decode cX2_init 108 = .ok (.dup, 1) := by decide +kernel
theorem dX2_init_109 : decode cX2_init 109 = .ok (.bipush 12, 2) := by decide +kernel
theorem dX2_init_111 : decode cX2_init 111 = .ok (.bipush 6, 2) := by decide +kernel
theorem dX2_init_113 : decode cX2_init 113 = .ok (.invokespecial 29, 3) := by decide +kernel
theorem dX2_init_116 : decode cX2_init 116 = .ok (.putfield 40, 3) := by decide +kernel
theorem dX2_init_119 : decode cX2_init 119 = .ok (.aload_n 0, 1) := by decide +kernel
theorem dX2_init_120 : decode cX2_init 120 = .ok (.iconst 1, 1) := by decide +kernel
theorem dX2_init_121 : decode cX2_init 121 = .ok (.putfield 43, 3) := by decide +kernel
theorem dX2_init_124 : decode cX2_init 124 = .ok (.aload_n 0, 1) := by decide +kernel
theorem dX2_init_125 : decode cX2_init 125 = .ok (.iconst 1, 1) := by decide +kernel
theorem dX2_init_126 : decode cX2_init 126 = .ok (.putfield 47, 3) := by decide +kernel
theorem dX2_init_129 : decode cX2_init 129 = .ok (.return_, 1) := by decide +kernel
set_option maxRecDepth 20000 in
theorem ggX2_addAccount_X2_with : GoodIn wsX2_addAccount wsX2_with := goodIn_r _ [8] (by decide +kernel) (by decide +kernel)
set_option maxRecDepth 20000 in
theorem gX2_addAccount_X2_with : GoodIn wsX2_addAccount (va_wsS RX2 57 yX2_with wsX2_with) := goodIn_app (goodIn_of _ (by decide +kernel)) ggX2_addAccount_X2_with
theorem dX2_addAccount_0 : decode cX2_addAccount 0 = .ok (.aload_n 0, 1) := by decide +kernel
theorem dX2_addAccount_1 : decode cX2_addAccount 1 = .ok (.getfield 43, 3) := by decide +kernel
theorem dX2_addAccount_4 : decode cX2_addAccount 4 = .ok (.bipush 10, 2) := by decide +kernel
theorem dX2_addAccount_6 : decode cX2_addAccount 6 = .ok (.if_icmp .lt 13, 3) := by decide +kernel
theorem dX2_addAccount_9 : decode cX2_addAccount 9 = .ok (.new 50, 3) := by decide +kernel
theorem dX2_addAccount_12 : decode cX2_addAccount 12 = .ok (.dup, 1) := by decide +kernel
theorem dX2_addAccount_13 : decode cX2_addAccount 13 = .ok (.ldc 52, 2) := by decide +kernel
theorem dX2_addAccount_15 : decode cX2_addAccount 15 = .ok (.invokespecial 54, 3) := by decide +kernel
theorem dX2_addAccount_18 : decode cX2_addAccount 18 = .ok (.athrow, 1) := by decide +kernel
theorem dX2_addAccount_19 : decode cX2_addAccount 19 = .ok (.aload_n 0, 1) := by decide +kernel
theorem dX2_addAccount_20 : decode cX2_addAccount 20 = .ok (.getfield 43, 3) := by decide +kernel
theorem dX2_addAccount_23 : decode cX2_addAccount 23 = .ok (.istore_n 1, 1) := by decide +kernel
theorem dX2_addAccount_24 : decode cX2_addAccount 24 = .ok (.aload_n 0, 1) := by decide +kernel
theorem dX2_addAccount_25 : decode cX2_addAccount 25 = .ok (.dup, 1) := by decide +kernel
theorem dX2_addAccount_26 : decode cX2_addAccount 26 = .ok (.getfield 43, 3) := by decide +kernel
theorem dX2_addAccount_29 : decode cX2_addAccount 29 = .ok (.iconst 1, 1) := by decide +kernel
theorem dX2_addAccount_30 : decode cX2_addAccount 30 = .ok (.iadd, 1) := by decide +kernel
theorem dX2_addAccount_31 : decode cX2_addAccount 31 = .ok (.putfield 43, 3) := by decide +kernel
theorem dX2_addAccount_34 : decode cX2_addAccount 34 = .ok (.aload_n 0, 1) := by decide +kernel
theorem dX2_addAccount_35 : decode cX2_addAccount 35 = .ok (.aload_n 0, 1) := by decide +kernel
theorem dX2_addAccount_36 : decode cX2_addAccount 36 = .ok (.getfield 47, 3) := by decide +kernel
theorem dX2_addAccount_39 : decode cX2_addAccount 39 = .ok (.iload_n 1, 1) := by decide +kernel
theorem dX2_addAccount_40 : decode cX2_addAccount 40 = .ok (.invokestatic 57, 3) := by decide +kernel
theorem dX2_addAccount_43 : decode cX2_addAccount 43 = .ok (.putfield 47, 3) := by decide +kernel
theorem dX2_addAccount_46 : decode cX2_addAccount 46 = .ok (.iload_n 1, 1) := by decide +kernel
theorem dX2_addAccount_47 : decode cX2_addAccount 47 = .ok (.ireturn, 1) := by decide +kernel
set_option maxRecDepth 20000 in
theorem ggX2_setHeir_X2_requireAccount : GoodIn wsX2_setHeir wsX2_requireAccount := goodIn_ca (goodIn_r _ [8, 9, 10, 11, 23, 24, 25, 26, 27, 28, 29, 30, 31, 32, 33, 34, 35, 36, 37, 38] (by decide +kernel) (by decide +kernel)) (goodIn_sub (fun _ h => List.mem_cons_of_mem _ (List.mem_append_left _ (List.mem_append_right _ h))) (by decide +kernel))
set_option maxRecDepth 20000 in
theorem gX2_setHeir_X2_requireAccount : GoodIn wsX2_setHeir (wsV RX2 61 RX2 yX2_requireAccount wsX2_requireAccount) := goodIn_app (goodIn_of _ (by decide +kernel)) ggX2_setHeir_X2_requireAccount
set_option maxRecDepth 20000 in
theorem ggX2_setHeir_X1_at : GoodIn wsX2_setHeir wsX1_at := goodIn_ca (goodIn_r _ [16, 17, 18, 39, 40] (by decide +kernel) (by decide +kernel)) (goodIn_sub (fun _ h => List.mem_cons_of_mem _ (List.mem_append_right _ h)) (by decide +kernel))
set_option maxRecDepth 20000 in
theorem gX2_setHeir_X1_at : GoodIn wsX2_setHeir (wsV RX2 70 RX1 yX1_at wsX1_at) := goodIn_app (goodIn_of _ (by decide +kernel)) ggX2_setHeir_X1_at
set_option maxRecDepth 20000 in
theorem ggX2_setHeir_X1_put : GoodIn wsX2_setHeir wsX1_put := goodIn_ca (goodIn_r _ [22, 17, 39, 40] (by decide +kernel) (by decide +kernel)) (goodIn_sub (fun _ h => List.mem_cons_of_mem _ (List.mem_append_right _ h)) (by decide +kernel))
set_option maxRecDepth 20000 in
theorem gX2_setHeir_X1_put : GoodIn wsX2_setHeir (wsV RX2 74 RX1 yX1_put wsX1_put) := goodIn_app (goodIn_of _ (by decide +kernel)) ggX2_setHeir_X1_put
theorem dX2_setHeir_0 : decode cX2_setHeir 0 = .ok (.aload_n 0, 1) := by decide +kernel
theorem dX2_setHeir_1 : decode cX2_setHeir 1 = .ok (.iload_n 1, 1) := by decide +kernel
theorem dX2_setHeir_2 : decode cX2_setHeir 2 = .ok (.invokevirtual 61, 3) := by decide +kernel
theorem dX2_setHeir_5 : decode cX2_setHeir 5 = .ok (.iload_n 2, 1) := by decide +kernel
theorem dX2_setHeir_6 : decode cX2_setHeir 6 = .ok (.iconst (-1), 1) := by decide +kernel
theorem dX2_setHeir_7 : decode cX2_setHeir 7 = .ok (.if_icmp .eq 8, 3) := by decide +kernel
theorem dX2_setHeir_10 : decode cX2_setHeir 10 = .ok (.aload_n 0, 1) := by decide +kernel
theorem dX2_setHeir_11 : decode cX2_setHeir 11 = .ok (.iload_n 2, 1) := by decide +kernel
theorem dX2_setHeir_12 : decode cX2_setHeir 12 = .ok (.invokevirtual 61, 3) := by decide +kernel
theorem dX2_setHeir_15 : decode cX2_setHeir 15 = .ok (.iload_n 1, 1) := by decide +kernel
theorem dX2_setHeir_16 : decode cX2_setHeir 16 = .ok (.iload_n 2, 1) := by decide +kernel
theorem dX2_setHeir_17 : decode cX2_setHeir 17 = .ok (.if_icmp .ne 13, 3) := by decide +kernel
theorem dX2_setHeir_20 : decode cX2_setHeir 20 = .ok (.new 65, 3) := by decide +kernel
theorem dX2_setHeir_23 : decode cX2_setHeir 23 = .ok (.dup, 1) := by decide +kernel
theorem dX2_setHeir_24 : decode cX2_setHeir 24 = .ok (.ldc 67, 2) := by decide +kernel
theorem dX2_setHeir_26 : decode cX2_setHeir 26 = .ok (.invokespecial 69, 3) := by decide +kernel
theorem dX2_setHeir_29 : decode cX2_setHeir 29 = .ok (.athrow, 1) := by decide +kernel
theorem dX2_setHeir_30 : decode cX2_setHeir 30 = .ok (.aload_n 0, 1) := by decide +kernel
theorem dX2_setHeir_31 : decode cX2_setHeir 31 = .ok (.getfield 14, 3) := by decide +kernel
theorem dX2_setHeir_34 : decode cX2_setHeir 34 = .ok (.iload_n 1, 1) := by decide +kernel
theorem dX2_setHeir_35 : decode cX2_setHeir 35 = .ok (.invokevirtual 70, 3) := by decide +kernel
theorem dX2_setHeir_38 : decode cX2_setHeir 38 = .ok (.istore_n 3, 1) := by decide +kernel
theorem dX2_setHeir_39 : decode cX2_setHeir 39 = .ok (.aload_n 0, 1) := by decide +kernel
theorem dX2_setHeir_40 : decode cX2_setHeir 40 = .ok (.getfield 14, 3) := by decide +kernel
theorem dX2_setHeir_43 : decode cX2_setHeir 43 = .ok (.iload_n 1, 1) := by decide +kernel
theorem dX2_setHeir_44 : decode cX2_setHeir 44 = .ok (.iload_n 2, 1) := by decide +kernel
theorem dX2_setHeir_45 : decode cX2_setHeir 45 = .ok (.invokevirtual 74, 3) := by decide +kernel
theorem dX2_setHeir_48 : decode cX2_setHeir 48 = .ok (.iload_n 3, 1) := by decide +kernel
theorem dX2_setHeir_49 : decode cX2_setHeir 49 = .ok (.ireturn, 1) := by decide +kernel
theorem dX2_addGroup_0 : decode cX2_addGroup 0 = .ok (.aload_n 0, 1) := by decide +kernel
theorem dX2_addGroup_1 : decode cX2_addGroup 1 = .ok (.getfield 77, 3) := by decide +kernel
theorem dX2_addGroup_4 : decode cX2_addGroup 4 = .ok (.bipush 6, 2) := by decide +kernel
theorem dX2_addGroup_6 : decode cX2_addGroup 6 = .ok (.if_icmp .lt 13, 3) := by decide +kernel
theorem dX2_addGroup_9 : decode cX2_addGroup 9 = .ok (.new 50, 3) := by decide +kernel
theorem dX2_addGroup_12 : decode cX2_addGroup 12 = .ok (.dup, 1) := by decide +kernel
theorem dX2_addGroup_13 : decode cX2_addGroup 13 = .ok (.ldc 80, 2) := by decide +kernel
theorem dX2_addGroup_15 : decode cX2_addGroup 15 = .ok (.invokespecial 54, 3) := by decide +kernel
theorem dX2_addGroup_18 : decode cX2_addGroup 18 = .ok (.athrow, 1) := by decide +kernel
theorem dX2_addGroup_19 : decode cX2_addGroup 19 = .ok (.aload_n 0, 1) := by decide +kernel
theorem dX2_addGroup_20 : decode cX2_addGroup 20 = .ok (.getfield 77, 3) := by decide +kernel
theorem dX2_addGroup_23 : decode cX2_addGroup 23 = .ok (.istore_n 1, 1) := by decide +kernel
theorem dX2_addGroup_24 : decode cX2_addGroup 24 = .ok (.aload_n 0, 1) := by decide +kernel
theorem dX2_addGroup_25 : decode cX2_addGroup 25 = .ok (.dup, 1) := by decide +kernel
theorem dX2_addGroup_26 : decode cX2_addGroup 26 = .ok (.getfield 77, 3) := by decide +kernel
theorem dX2_addGroup_29 : decode cX2_addGroup 29 = .ok (.iconst 1, 1) := by decide +kernel
theorem dX2_addGroup_30 : decode cX2_addGroup 30 = .ok (.iadd, 1) := by decide +kernel
theorem dX2_addGroup_31 : decode cX2_addGroup 31 = .ok (.putfield 77, 3) := by decide +kernel
theorem dX2_addGroup_34 : decode cX2_addGroup 34 = .ok (.iload_n 1, 1) := by decide +kernel
theorem dX2_addGroup_35 : decode cX2_addGroup 35 = .ok (.ireturn, 1) := by decide +kernel
set_option maxRecDepth 20000 in
theorem ggX2_join_X2_requireAccount : GoodIn wsX2_join wsX2_requireAccount := goodIn_ca (goodIn_r _ [8, 9, 10, 11, 47, 48, 49, 50, 51, 52, 53, 54, 55, 56, 57, 58, 59, 60, 61, 62] (by decide +kernel) (by decide +kernel)) (goodIn_sub (fun _ h => List.mem_cons_of_mem _ (List.mem_append_left _ (List.mem_append_left _ (List.mem_append_right _ h)))) (by decide +kernel))
set_option maxRecDepth 20000 in
theorem gX2_join_X2_requireAccount : GoodIn wsX2_join (wsV RX2 61 RX2 yX2_requireAccount wsX2_requireAccount) := goodIn_app (goodIn_of _ (by decide +kernel)) ggX2_join_X2_requireAccount
set_option maxRecDepth 20000 in
theorem ggX2_join_X2_requireGroup : GoodIn wsX2_join wsX2_requireGroup := goodIn_ca (goodIn_r _ [15, 9, 10, 16, 47, 48, 49, 50, 51, 52, 53, 54, 55, 56, 57, 58, 59, 60, 61, 62] (by decide +kernel) (by decide +kernel)) (goodIn_sub (fun _ h => List.mem_cons_of_mem _ (List.mem_append_left _ (List.mem_append_left _ (List.mem_append_right _ h)))) (by decide +kernel))
set_option maxRecDepth 20000 in
theorem gX2_join_X2_requireGroup : GoodIn wsX2_join (wsV RX2 82 RX2 yX2_requireGroup wsX2_requireGroup) := goodIn_app (goodIn_of _ (by decide +kernel)) ggX2_join_X2_requireGroup
set_option maxRecDepth 20000 in
theorem ggX2_join_X2_requireEnd : GoodIn wsX2_join wsX2_requireEnd := goodIn_ca (goodIn_r _ [20, 21, 22, 23, 47, 48, 49, 50, 51, 52, 53, 54, 55, 56, 57, 58, 59, 60, 61, 62] (by decide +kernel) (by decide +kernel)) (goodIn_sub (fun _ h => List.mem_cons_of_mem _ (List.mem_append_left _ (List.mem_append_right _ h))) (by decide +kernel))
set_option maxRecDepth 20000 in
theorem gX2_join_X2_requireEnd : GoodIn wsX2_join (wsV RX2 85 RX2 yX2_requireEnd wsX2_requireEnd) := goodIn_app (goodIn_of _ (by decide +kernel)) ggX2_join_X2_requireEnd
set_option maxRecDepth 20000 in
theorem ggX2_join_X2_isActive : GoodIn wsX2_join wsX2_isActive := goodIn_r _ [27, 28, 29, 30, 7, 31, 47, 48, 49, 50, 51, 52, 53, 54, 55, 56, 57, 58, 59, 60, 61, 62] (by decide +kernel) (by decide +kernel)
set_option maxRecDepth 20000 in
theorem gX2_join_X2_isActive : GoodIn wsX2_join (wsV RX2 88 RX2 yX2_isActive wsX2_isActive) := goodIn_app (goodIn_of _ (by decide +kernel)) ggX2_join_X2_isActive
set_option maxRecDepth 20000 in
theorem ggX2_join_X0_put : GoodIn wsX2_join wsX0_put := goodIn_ca (goodIn_r _ [36, 37, 38, 63, 64] (by decide +kernel) (by decide +kernel)) (goodIn_sub (fun _ h => List.mem_cons_of_mem _ (List.mem_append_right _ h)) (by decide +kernel))
set_option maxRecDepth 20000 in
theorem gX2_join_X0_put : GoodIn wsX2_join (wsV RX2 97 RX0 yX0_put wsX0_put) := goodIn_app (goodIn_of _ (by decide +kernel)) ggX2_join_X0_put
set_option maxRecDepth 20000 in
theorem ggX2_join_X0_filled : GoodIn wsX2_join wsX0_filled := goodIn_ca (goodIn_r _ [42, 37, 43, 44, 45, 35, 46, 38, 63, 64] (by decide +kernel) (by decide +kernel)) (goodIn_sub (fun _ h => List.mem_cons_of_mem _ (List.mem_append_right _ h)) (by decide +kernel))
set_option maxRecDepth 20000 in
theorem gX2_join_X0_filled : GoodIn wsX2_join (wsV RX2 100 RX0 yX0_filled wsX0_filled) := goodIn_app (goodIn_of _ (by decide +kernel)) ggX2_join_X0_filled
theorem dX2_join_0 : decode cX2_join 0 = .ok (.aload_n 0, 1) := by decide +kernel
theorem dX2_join_1 : decode cX2_join 1 = .ok (.iload_n 1, 1) := by decide +kernel
theorem dX2_join_2 : decode cX2_join 2 = .ok (.invokevirtual 61, 3) := by decide +kernel
theorem dX2_join_5 : decode cX2_join 5 = .ok (.aload_n 0, 1) := by decide +kernel
theorem dX2_join_6 : decode cX2_join 6 = .ok (.iload_n 2, 1) := by decide +kernel
theorem dX2_join_7 : decode cX2_join 7 = .ok (.invokevirtual 82, 3) := by decide +kernel
theorem dX2_join_10 : decode cX2_join 10 = .ok (.aload_n 0, 1) := by decide +kernel
theorem dX2_join_11 : decode cX2_join 11 = .ok (.iload_n 3, 1) := by decide +kernel
theorem dX2_join_12 : decode cX2_join 12 = .ok (.invokevirtual 85, 3) := by decide +kernel
theorem dX2_join_15 : decode cX2_join 15 = .ok (.aload_n 0, 1) := by decide +kernel
theorem dX2_join_16 : decode cX2_join 16 = .ok (.iload_n 1, 1) := by decide +kernel
theorem dX2_join_17 : decode cX2_join 17 = .ok (.invokevirtual 88, 3) := by decide +kernel
theorem dX2_join_20 : decode cX2_join 20 = .ok (.ifCond .ne 13, 3) := by decide +kernel
theorem dX2_join_23 : decode cX2_join 23 = .ok (.new 92, 3) := by decide +kernel
theorem dX2_join_26 : decode cX2_join 26 = .ok (.dup, 1) := by decide +kernel
theorem dX2_join_27 : decode cX2_join 27 = .ok (.ldc 94, 2) := by decide +kernel
theorem dX2_join_29 : decode cX2_join 29 = .ok (.invokespecial 96, 3) := by decide +kernel
theorem dX2_join_32 : decode cX2_join 32 = .ok (.athrow, 1) := by decide +kernel
theorem dX2_join_33 : decode cX2_join 33 = .ok (.aload_n 0, 1) := by decide +kernel
theorem dX2_join_34 : decode cX2_join 34 = .ok (.getfield 30, 3) := by decide +kernel
theorem dX2_join_37 : decode cX2_join 37 = .ok (.iload_n 2, 1) := by decide +kernel
theorem dX2_join_38 : decode cX2_join 38 = .ok (.iload_n 1, 1) := by decide +kernel
theorem dX2_join_39 : decode cX2_join 39 = .ok (.iload_n 3, 1) := by decide +kernel
theorem dX2_join_40 : decode cX2_join 40 = .ok (.invokevirtual 97, 3) := by decide +kernel
theorem dX2_join_43 : decode cX2_join 43 = .ok (.aload_n 0, 1) := by decide +kernel
theorem dX2_join_44 : decode cX2_join 44 = .ok (.getfield 30, 3) := by decide +kernel
theorem dX2_join_47 : decode cX2_join 47 = .ok (.iload_n 2, 1) := by decide +kernel
theorem dX2_join_48 : decode cX2_join 48 = .ok (.invokevirtual 100, 3) := by decide +kernel
theorem dX2_join_51 : decode cX2_join 51 = .ok (.ireturn, 1) := by decide +kernel
set_option maxRecDepth 20000 in
theorem ggX2_nest_X2_requireGroup : GoodIn wsX2_nest wsX2_requireGroup := goodIn_ca (goodIn_r _ [8, 9, 10, 11, 53, 54, 55, 56, 57, 58, 59, 60, 61, 62, 63, 64, 65, 66, 67, 68] (by decide +kernel) (by decide +kernel)) (goodIn_sub (fun _ h => List.mem_cons_of_mem _ (List.mem_append_left _ (List.mem_append_left _ (List.mem_append_right _ h)))) (by decide +kernel))
set_option maxRecDepth 20000 in
theorem gX2_nest_X2_requireGroup : GoodIn wsX2_nest (wsV RX2 82 RX2 yX2_requireGroup wsX2_requireGroup) := goodIn_app (goodIn_of _ (by decide +kernel)) ggX2_nest_X2_requireGroup
set_option maxRecDepth 20000 in
theorem ggX2_nest_X2_requireEnd : GoodIn wsX2_nest wsX2_requireEnd := goodIn_ca (goodIn_r _ [15, 16, 17, 18, 53, 54, 55, 56, 57, 58, 59, 60, 61, 62, 63, 64, 65, 66, 67, 68] (by decide +kernel) (by decide +kernel)) (goodIn_sub (fun _ h => List.mem_cons_of_mem _ (List.mem_append_left _ (List.mem_append_right _ h))) (by decide +kernel))
set_option maxRecDepth 20000 in
theorem gX2_nest_X2_requireEnd : GoodIn wsX2_nest (wsV RX2 85 RX2 yX2_requireEnd wsX2_requireEnd) := goodIn_app (goodIn_of _ (by decide +kernel)) ggX2_nest_X2_requireEnd
set_option maxRecDepth 20000 in
theorem ggX2_nest_X2_with : GoodIn wsX2_nest wsX2_with := goodIn_r _ [21] (by decide +kernel) (by decide +kernel)
set_option maxRecDepth 20000 in
theorem gX2_nest_X2_with : GoodIn wsX2_nest (va_wsS RX2 57 yX2_with wsX2_with) := goodIn_app (goodIn_of _ (by decide +kernel)) ggX2_nest_X2_with
set_option maxRecDepth 20000 in
theorem ggX2_nest_X2_andAllAround : GoodIn wsX2_nest wsX2_andAllAround := goodIn_ca (goodIn_r _ [25, 11, 26, 27, 7, 28, 29, 30, 31, 32, 33, 34, 35, 36, 3, 37, 38, 39, 40, 41, 42, 43, 19, 20, 21, 53, 54, 55, 56, 57, 58, 59, 60, 61, 62, 63, 64, 65, 66, 67, 68, 69, 70] (by decide +kernel) (by decide +kernel)) (goodIn_sub (fun _ h => List.mem_cons_of_mem _ (List.mem_append_right _ h)) (by decide +kernel))
set_option maxRecDepth 20000 in
theorem gX2_nest_X2_andAllAround : GoodIn wsX2_nest (wsV RX2 103 RX2 yX2_andAllAround wsX2_andAllAround) := goodIn_app (goodIn_of _ (by decide +kernel)) ggX2_nest_X2_andAllAround
set_option maxRecDepth 20000 in
theorem ggX2_nest_X2_contains : GoodIn wsX2_nest wsX2_contains := goodIn_r _ [28] (by decide +kernel) (by decide +kernel)
set_option maxRecDepth 20000 in
theorem gX2_nest_X2_contains : GoodIn wsX2_nest (va_wsS RX2 106 yX2_contains wsX2_contains) := goodIn_app (goodIn_of _ (by decide +kernel)) ggX2_nest_X2_contains
set_option maxRecDepth 20000 in
theorem ggX2_nest_X0_put : GoodIn wsX2_nest wsX0_put := goodIn_ca (goodIn_r _ [47, 42, 43, 69, 70] (by decide +kernel) (by decide +kernel)) (goodIn_sub (fun _ h => List.mem_cons_of_mem _ (List.mem_append_right _ h)) (by decide +kernel))
set_option maxRecDepth 20000 in
theorem gX2_nest_X0_put : GoodIn wsX2_nest (wsV RX2 97 RX0 yX0_put wsX0_put) := goodIn_app (goodIn_of _ (by decide +kernel)) ggX2_nest_X0_put
set_option maxRecDepth 20000 in
theorem ggX2_nest_X0_filled : GoodIn wsX2_nest wsX0_filled := goodIn_ca (goodIn_r _ [51, 42, 52, 38, 39, 40, 41, 43, 69, 70] (by decide +kernel) (by decide +kernel)) (goodIn_sub (fun _ h => List.mem_cons_of_mem _ (List.mem_append_right _ h)) (by decide +kernel))
set_option maxRecDepth 20000 in
theorem gX2_nest_X0_filled : GoodIn wsX2_nest (wsV RX2 100 RX0 yX0_filled wsX0_filled) := goodIn_app (goodIn_of _ (by decide +kernel)) ggX2_nest_X0_filled
theorem dX2_nest_0 : decode cX2_nest 0 = .ok (.aload_n 0, 1) := by decide +kernel
theorem dX2_nest_1 : decode cX2_nest 1 = .ok (.iload_n 1, 1) := by decide +kernel
theorem dX2_nest_2 : decode cX2_nest 2 = .ok (.invokevirtual 82, 3) := by decide +kernel
theorem dX2_nest_5 : decode cX2_nest 5 = .ok (.aload_n 0, 1) := by decide +kernel
theorem dX2_nest_6 : decode cX2_nest 6 = .ok (.iload_n 2, 1) := by decide +kernel
theorem dX2_nest_7 : decode cX2_nest 7 = .ok (.invokevirtual 82, 3) := by decide +kernel
theorem dX2_nest_10 : decode cX2_nest 10 = .ok (.aload_n 0, 1) := by decide +kernel
theorem dX2_nest_11 : decode cX2_nest 11 = .ok (.iload_n 3, 1) := by decide +kernel
theorem dX2_nest_12 : decode cX2_nest 12 = .ok (.invokevirtual 85, 3) := by decide +kernel
theorem dX2_nest_15 : decode cX2_nest 15 = .ok (.aload_n 0, 1) := by decide +kernel
theorem dX2_nest_16 : decode cX2_nest 16 = .ok (.iconst 0, 1) := by decide +kernel
theorem dX2_nest_17 : decode cX2_nest 17 = .ok (.iload_n 2, 1) := by decide +kernel
theorem dX2_nest_18 : decode cX2_nest 18 = .ok (.invokestatic 57, 3) := by decide +kernel
theorem dX2_nest_21 : decode cX2_nest 21 = .ok (.invokevirtual 103, 3) := by decide +kernel
theorem dX2_nest_24 : decode cX2_nest 24 = .ok (.iload_n 1, 1) := by decide +kernel
theorem dX2_nest_25 : decode cX2_nest 25 = .ok (.invokestatic 106, 3) := by decide +kernel
theorem dX2_nest_28 : decode cX2_nest 28 = .ok (.ifCond .eq 13, 3) := by decide +kernel
theorem dX2_nest_31 : decode cX2_nest 31 = .ok (.new 92, 3) := by decide +kernel
theorem dX2_nest_34 : decode cX2_nest 34 = .ok (.dup, 1) := by decide +kernel
theorem dX2_nest_35 : decode cX2_nest 35 = .ok (.ldc 110, 2) := by decide +kernel
theorem dX2_nest_37 : decode cX2_nest 37 = .ok (.invokespecial 96, 3) := by decide +kernel
theorem dX2_nest_40 : decode cX2_nest 40 = .ok (.athrow, 1) := by decide +kernel
theorem dX2_nest_41 : decode cX2_nest 41 = .ok (.aload_n 0, 1) := by decide +kernel
theorem dX2_nest_42 : decode cX2_nest 42 = .ok (.getfield 34, 3) := by decide +kernel
theorem dX2_nest_45 : decode cX2_nest 45 = .ok (.iload_n 2, 1) := by decide +kernel
theorem dX2_nest_46 : decode cX2_nest 46 = .ok (.iload_n 1, 1) := by decide +kernel
theorem dX2_nest_47 : decode cX2_nest 47 = .ok (.iload_n 3, 1) := by decide +kernel
theorem dX2_nest_48 : decode cX2_nest 48 = .ok (.invokevirtual 97, 3) := by decide +kernel
theorem dX2_nest_51 : decode cX2_nest 51 = .ok (.aload_n 0, 1) := by decide +kernel
theorem dX2_nest_52 : decode cX2_nest 52 = .ok (.getfield 34, 3) := by decide +kernel
theorem dX2_nest_55 : decode cX2_nest 55 = .ok (.iload_n 2, 1) := by decide +kernel
theorem dX2_nest_56 : decode cX2_nest 56 = .ok (.invokevirtual 100, 3) := by decide +kernel
theorem dX2_nest_59 : decode cX2_nest 59 = .ok (.ireturn, 1) := by decide +kernel
set_option maxRecDepth 20000 in
theorem ggX2_drop_X2_requireAccount : GoodIn wsX2_drop wsX2_requireAccount := goodIn_ca (goodIn_r _ [8, 9, 10, 11, 37, 38, 39, 40, 41, 42, 43, 44, 45, 46, 47, 48, 49, 50, 51, 52] (by decide +kernel) (by decide +kernel)) (goodIn_sub (fun _ h => List.mem_cons_of_mem _ (List.mem_append_left _ (List.mem_append_right _ h))) (by decide +kernel))
set_option maxRecDepth 20000 in
theorem gX2_drop_X2_requireAccount : GoodIn wsX2_drop (wsV RX2 61 RX2 yX2_requireAccount wsX2_requireAccount) := goodIn_app (goodIn_of _ (by decide +kernel)) ggX2_drop_X2_requireAccount
set_option maxRecDepth 20000 in
theorem ggX2_drop_X2_requireGroup : GoodIn wsX2_drop wsX2_requireGroup := goodIn_ca (goodIn_r _ [15, 9, 10, 16, 37, 38, 39, 40, 41, 42, 43, 44, 45, 46, 47, 48, 49, 50, 51, 52] (by decide +kernel) (by decide +kernel)) (goodIn_sub (fun _ h => List.mem_cons_of_mem _ (List.mem_append_left _ (List.mem_append_right _ h))) (by decide +kernel))
set_option maxRecDepth 20000 in
theorem gX2_drop_X2_requireGroup : GoodIn wsX2_drop (wsV RX2 82 RX2 yX2_requireGroup wsX2_requireGroup) := goodIn_app (goodIn_of _ (by decide +kernel)) ggX2_drop_X2_requireGroup
set_option maxRecDepth 20000 in
theorem ggX2_drop_X2_isMember : GoodIn wsX2_drop wsX2_isMember := goodIn_ca (goodIn_r _ [20, 3, 21, 22, 23, 24, 25, 26, 27, 37, 38, 39, 40, 41, 42, 43, 44, 45, 46, 47, 48, 49, 50, 51, 52, 53, 54] (by decide +kernel) (by decide +kernel)) (goodIn_sub (fun _ h => List.mem_cons_of_mem _ (List.mem_append_right _ h)) (by decide +kernel))
set_option maxRecDepth 20000 in
theorem gX2_drop_X2_isMember : GoodIn wsX2_drop (wsV RX2 112 RX2 yX2_isMember wsX2_isMember) := goodIn_app (goodIn_of _ (by decide +kernel)) ggX2_drop_X2_isMember
set_option maxRecDepth 20000 in
theorem ggX2_drop_X0_put : GoodIn wsX2_drop wsX0_put := goodIn_ca (goodIn_r _ [31, 26, 27, 53, 54] (by decide +kernel) (by decide +kernel)) (goodIn_sub (fun _ h => List.mem_cons_of_mem _ (List.mem_append_right _ h)) (by decide +kernel))
set_option maxRecDepth 20000 in
theorem gX2_drop_X0_put : GoodIn wsX2_drop (wsV RX2 97 RX0 yX0_put wsX0_put) := goodIn_app (goodIn_of _ (by decide +kernel)) ggX2_drop_X0_put
set_option maxRecDepth 20000 in
theorem ggX2_drop_X0_filled : GoodIn wsX2_drop wsX0_filled := goodIn_ca (goodIn_r _ [35, 26, 36, 22, 23, 24, 25, 27, 53, 54] (by decide +kernel) (by decide +kernel)) (goodIn_sub (fun _ h => List.mem_cons_of_mem _ (List.mem_append_right _ h)) (by decide +kernel))
set_option maxRecDepth 20000 in
theorem gX2_drop_X0_filled : GoodIn wsX2_drop (wsV RX2 100 RX0 yX0_filled wsX0_filled) := goodIn_app (goodIn_of _ (by decide +kernel)) ggX2_drop_X0_filled
theorem dX2_drop_0 : decode cX2_drop 0 = .ok (.aload_n 0, 1) := by decide +kernel
theorem dX2_drop_1 : decode cX2_drop 1 = .ok (.iload_n 1, 1) := by decide +kernel
theorem dX2_drop_2 : decode cX2_drop 2 = .ok (.invokevirtual 61, 3) := by decide +kernel
theorem dX2_drop_5 : decode cX2_drop 5 = .ok (.aload_n 0, 1) := by decide +kernel
theorem dX2_drop_6 : decode cX2_drop 6 = .ok (.iload_n 2, 1) := by decide +kernel
theorem dX2_drop_7 : decode cX2_drop 7 = .ok (.invokevirtual 82, 3) := by decide +kernel
theorem dX2_drop_10 : decode cX2_drop 10 = .ok (.aload_n 0, 1) := by decide +kernel
theorem dX2_drop_11 : decode cX2_drop 11 = .ok (.iload_n 1, 1) := by decide +kernel
theorem dX2_drop_12 : decode cX2_drop 12 = .ok (.iload_n 2, 1) := by decide +kernel
theorem dX2_drop_13 : decode cX2_drop 13 = .ok (.invokevirtual 112, 3) := by decide +kernel
theorem dX2_drop_16 : decode cX2_drop 16 = .ok (.ifCond .ne 13, 3) := by decide +kernel
theorem dX2_drop_19 : decode cX2_drop 19 = .ok (.new 115, 3) := by decide +kernel
theorem dX2_drop_22 : decode cX2_drop 22 = .ok (.dup, 1) := by decide +kernel
theorem dX2_drop_23 : decode cX2_drop 23 = .ok (.ldc 117, 2) := by decide +kernel
theorem dX2_drop_25 : decode cX2_drop 25 = .ok (.invokespecial 119, 3) := by decide +kernel
theorem dX2_drop_28 : decode cX2_drop 28 = .ok (.athrow, 1) := by decide +kernel
theorem dX2_drop_29 : decode cX2_drop 29 = .ok (.aload_n 0, 1) := by decide +kernel
theorem dX2_drop_30 : decode cX2_drop 30 = .ok (.getfield 30, 3) := by decide +kernel
theorem dX2_drop_33 : decode cX2_drop 33 = .ok (.iload_n 2, 1) := by decide +kernel
theorem dX2_drop_34 : decode cX2_drop 34 = .ok (.iload_n 1, 1) := by decide +kernel
theorem dX2_drop_35 : decode cX2_drop 35 = .ok (.iconst 0, 1) := by decide +kernel
theorem dX2_drop_36 : decode cX2_drop 36 = .ok (.invokevirtual 97, 3) := by decide +kernel
theorem dX2_drop_39 : decode cX2_drop 39 = .ok (.aload_n 0, 1) := by decide +kernel
theorem dX2_drop_40 : decode cX2_drop 40 = .ok (.getfield 30, 3) := by decide +kernel
theorem dX2_drop_43 : decode cX2_drop 43 = .ok (.iload_n 2, 1) := by decide +kernel
theorem dX2_drop_44 : decode cX2_drop 44 = .ok (.invokevirtual 100, 3) := by decide +kernel
theorem dX2_drop_47 : decode cX2_drop 47 = .ok (.ireturn, 1) := by decide +kernel
set_option maxRecDepth 20000 in
theorem ggX2_isIn_X2_requireAccount : GoodIn wsX2_isIn wsX2_requireAccount := goodIn_ca (goodIn_r _ [5, 6, 7, 8, 49, 50, 51, 52, 53, 54, 55, 56, 57, 58, 59, 60, 61, 62, 63, 64] (by decide +kernel) (by decide +kernel)) (goodIn_sub (fun _ h => List.mem_cons_of_mem _ (List.mem_append_left _ (List.mem_append_right _ h))) (by decide +kernel))
set_option maxRecDepth 20000 in
theorem gX2_isIn_X2_requireAccount : GoodIn wsX2_isIn (wsV RX2 61 RX2 yX2_requireAccount wsX2_requireAccount) := goodIn_app (goodIn_of _ (by decide +kernel)) ggX2_isIn_X2_requireAccount
set_option maxRecDepth 20000 in
theorem ggX2_isIn_X2_requireGroup : GoodIn wsX2_isIn wsX2_requireGroup := goodIn_ca (goodIn_r _ [12, 6, 7, 13, 49, 50, 51, 52, 53, 54, 55, 56, 57, 58, 59, 60, 61, 62, 63, 64] (by decide +kernel) (by decide +kernel)) (goodIn_sub (fun _ h => List.mem_cons_of_mem _ (List.mem_append_left _ (List.mem_append_right _ h))) (by decide +kernel))
set_option maxRecDepth 20000 in
theorem gX2_isIn_X2_requireGroup : GoodIn wsX2_isIn (wsV RX2 82 RX2 yX2_requireGroup wsX2_requireGroup) := goodIn_app (goodIn_of _ (by decide +kernel)) ggX2_isIn_X2_requireGroup
set_option maxRecDepth 20000 in
theorem ggX2_isIn_X2_groupsOf : GoodIn wsX2_isIn wsX2_groupsOf := goodIn_ca (goodIn_r _ [17, 13, 18, 19, 20, 4, 21, 22, 23, 24, 25, 26, 27, 28, 29, 30, 31, 32, 33, 34, 35, 36, 37, 38, 39, 40, 41, 42, 43, 44, 45, 46, 47, 48, 49, 50, 51, 52, 53, 54, 55, 56, 57, 58, 59, 60, 61, 62, 63, 64, 65, 66] (by decide +kernel) (by decide +kernel)) (goodIn_sub (fun _ h => List.mem_cons_of_mem _ (List.mem_append_right _ h)) (by decide +kernel))
set_option maxRecDepth 20000 in
theorem gX2_isIn_X2_groupsOf : GoodIn wsX2_isIn (wsV RX2 120 RX2 yX2_groupsOf wsX2_groupsOf) := goodIn_app (goodIn_of _ (by decide +kernel)) ggX2_isIn_X2_groupsOf
set_option maxRecDepth 20000 in
theorem ggX2_isIn_X2_contains : GoodIn wsX2_isIn wsX2_contains := goodIn_r _ [39] (by decide +kernel) (by decide +kernel)
set_option maxRecDepth 20000 in
theorem gX2_isIn_X2_contains : GoodIn wsX2_isIn (va_wsS RX2 106 yX2_contains wsX2_contains) := goodIn_app (goodIn_of _ (by decide +kernel)) ggX2_isIn_X2_contains
theorem dX2_isIn_0 : decode cX2_isIn 0 = .ok (.aload_n 0, 1) := by decide +kernel
theorem dX2_isIn_1 : decode cX2_isIn 1 = .ok (.iload_n 1, 1) := by decide +kernel
theorem dX2_isIn_2 : decode cX2_isIn 2 = .ok (.invokevirtual 61, 3) := by decide +kernel
theorem dX2_isIn_5 : decode cX2_isIn 5 = .ok (.aload_n 0, 1) := by decide +kernel
theorem dX2_isIn_6 : decode cX2_isIn 6 = .ok (.iload_n 2, 1) := by decide +kernel
theorem dX2_isIn_7 : decode cX2_isIn 7 = .ok (.invokevirtual 82, 3) := by decide +kernel
theorem dX2_isIn_10 : decode cX2_isIn 10 = .ok (.aload_n 0, 1) := by decide +kernel
theorem dX2_isIn_11 : decode cX2_isIn 11 = .ok (.iload_n 1, 1) := by decide +kernel
theorem dX2_isIn_12 : decode cX2_isIn 12 = .ok (.invokevirtual 120, 3) := by decide +kernel
theorem dX2_isIn_15 : decode cX2_isIn 15 = .ok (.iload_n 2, 1) := by decide +kernel
theorem dX2_isIn_16 : decode cX2_isIn 16 = .ok (.invokestatic 106, 3) := by decide +kernel
theorem dX2_isIn_19 : decode cX2_isIn 19 = .ok (.ireturn, 1) := by decide +kernel
set_option maxRecDepth 20000 in
theorem ggX2_memberships_X0_filled : GoodIn wsX2_memberships wsX0_filled := goodIn_ca (goodIn_r _ [8, 9, 10, 11, 12, 7, 13, 14, 31, 32] (by decide +kernel) (by decide +kernel)) (goodIn_sub (fun _ h => List.mem_cons_of_mem _ (List.mem_append_right _ h)) (by decide +kernel))
set_option maxRecDepth 20000 in
theorem gX2_memberships_X0_filled : GoodIn wsX2_memberships (wsV RX2 100 RX0 yX0_filled wsX0_filled) := goodIn_app (goodIn_of _ (by decide +kernel)) ggX2_memberships_X0_filled
theorem dX2_memberships_0 : decode cX2_memberships 0 = .ok (.iconst 0, 1) := by decide +kernel
theorem dX2_memberships_1 : decode cX2_memberships 1 = .ok (.istore_n 1, 1) := by decide +kernel
theorem dX2_memberships_2 : decode cX2_memberships 2 = .ok (.iconst 0, 1) := by decide +kernel
theorem dX2_memberships_3 : decode cX2_memberships 3 = .ok (.istore_n 2, 1) := by decide +kernel
theorem dX2_memberships_4 : decode cX2_memberships 4 = .ok (.iload_n 2, 1) := by decide +kernel
theorem dX2_memberships_5 : decode cX2_memberships 5 = .ok (.aload_n 0, 1) := by decide +kernel
theorem dX2_memberships_6 : decode cX2_memberships 6 = .ok (.getfield 77, 3) := by decide +kernel
theorem dX2_memberships_9 : decode cX2_memberships 9 = .ok (.if_icmp .ge 29, 3) := by decide +kernel
theorem dX2_memberships_12 : decode cX2_memberships 12 = .ok (.iload_n 1, 1) := by decide +kernel
theorem dX2_memberships_13 : decode cX2_memberships 13 = .ok (.aload_n 0, 1) := by decide +kernel
theorem dX2_memberships_14 : decode cX2_memberships 14 = .ok (.getfield 30, 3) := by decide +kernel
theorem dX2_memberships_17 : decode cX2_memberships 17 = .ok (.iload_n 2, 1) := by decide +kernel
theorem dX2_memberships_18 : decode cX2_memberships 18 = .ok (.invokevirtual 100, 3) := by decide +kernel
theorem dX2_memberships_21 : decode cX2_memberships 21 = .ok (.aload_n 0, 1) := by decide +kernel
theorem dX2_memberships_22 : decode cX2_memberships 22 = .ok (.getfield 34, 3) := by decide +kernel
theorem dX2_memberships_25 : decode cX2_memberships 25 = .ok (.iload_n 2, 1) := by decide +kernel
theorem dX2_memberships_26 : decode cX2_memberships 26 = .ok (.invokevirtual 100, 3) := by decide +kernel
theorem dX2_memberships_29 : decode cX2_memberships 29 = .ok (.iadd, 1) := by decide +kernel
theorem dX2_memberships_30 : decode cX2_memberships 30 = .ok (.iadd, 1) := by decide +kernel
theorem dX2_memberships_31 : decode cX2_memberships 31 = .ok (.istore_n 1, 1) := by decide +kernel
theorem dX2_memberships_32 : decode cX2_memberships 32 = .ok (.iinc 2 1, 3) := by decide +kernel
theorem dX2_memberships_35 : decode cX2_memberships 35 = .ok (.goto (-31), 3) := by decide +kernel
theorem dX2_memberships_38 : decode cX2_memberships 38 = .ok (.iload_n 1, 1) := by decide +kernel
theorem dX2_memberships_39 : decode cX2_memberships 39 = .ok (.ireturn, 1) := by decide +kernel
set_option maxRecDepth 20000 in
theorem ggX2_addFolder_X2_requireAccount : GoodIn wsX2_addFolder wsX2_requireAccount := goodIn_ca (goodIn_r _ [12, 13, 14, 15, 34, 35, 36, 37, 38, 39, 40, 41, 42, 43, 44, 45, 46, 47, 48, 49] (by decide +kernel) (by decide +kernel)) (goodIn_sub (fun _ h => List.mem_cons_of_mem _ (List.mem_append_left _ (List.mem_append_right _ h))) (by decide +kernel))
set_option maxRecDepth 20000 in
theorem gX2_addFolder_X2_requireAccount : GoodIn wsX2_addFolder (wsV RX2 61 RX2 yX2_requireAccount wsX2_requireAccount) := goodIn_app (goodIn_of _ (by decide +kernel)) ggX2_addFolder_X2_requireAccount
set_option maxRecDepth 20000 in
theorem ggX2_addFolder_X2_requireFolder : GoodIn wsX2_addFolder wsX2_requireFolder := goodIn_ca (goodIn_r _ [19, 13, 14, 5, 34, 35, 36, 37, 38, 39, 40, 41, 42, 43, 44, 45, 46, 47, 48, 49] (by decide +kernel) (by decide +kernel)) (goodIn_sub (fun _ h => List.mem_cons_of_mem _ (List.mem_append_left _ (List.mem_append_right _ h))) (by decide +kernel))
set_option maxRecDepth 20000 in
theorem gX2_addFolder_X2_requireFolder : GoodIn wsX2_addFolder (wsV RX2 123 RX2 yX2_requireFolder wsX2_requireFolder) := goodIn_app (goodIn_of _ (by decide +kernel)) ggX2_addFolder_X2_requireFolder
set_option maxRecDepth 20000 in
theorem ggX2_addFolder_X2_isActive : GoodIn wsX2_addFolder wsX2_isActive := goodIn_r _ [23, 24, 25, 26, 11, 27, 34, 35, 36, 37, 38, 39, 40, 41, 42, 43, 44, 45, 46, 47, 48, 49] (by decide +kernel) (by decide +kernel)
set_option maxRecDepth 20000 in
theorem gX2_addFolder_X2_isActive : GoodIn wsX2_addFolder (wsV RX2 88 RX2 yX2_isActive wsX2_isActive) := goodIn_app (goodIn_of _ (by decide +kernel)) ggX2_addFolder_X2_isActive
set_option maxRecDepth 20000 in
theorem ggX2_addFolder_X1_put : GoodIn wsX2_addFolder wsX1_put := goodIn_ca (goodIn_r _ [32, 33, 50, 51] (by decide +kernel) (by decide +kernel)) (goodIn_sub (fun _ h => List.mem_cons_of_mem _ (List.mem_append_right _ h)) (by decide +kernel))
set_option maxRecDepth 20000 in
theorem gX2_addFolder_X1_put : GoodIn wsX2_addFolder (wsV RX2 74 RX1 yX1_put wsX1_put) := goodIn_app (goodIn_of _ (by decide +kernel)) ggX2_addFolder_X1_put
theorem dX2_addFolder_0 : decode cX2_addFolder 0 = .ok (.aload_n 0, 1) := by decide +kernel
theorem dX2_addFolder_1 : decode cX2_addFolder 1 = .ok (.iload_n 1, 1) := by decide +kernel
theorem dX2_addFolder_2 : decode cX2_addFolder 2 = .ok (.invokevirtual 61, 3) := by decide +kernel
theorem dX2_addFolder_5 : decode cX2_addFolder 5 = .ok (.iload_n 2, 1) := by decide +kernel
theorem dX2_addFolder_6 : decode cX2_addFolder 6 = .ok (.iconst (-1), 1) := by decide +kernel
theorem dX2_addFolder_7 : decode cX2_addFolder 7 = .ok (.if_icmp .eq 8, 3) := by decide +kernel
theorem dX2_addFolder_10 : decode cX2_addFolder 10 = .ok (.aload_n 0, 1) := by decide +kernel
theorem dX2_addFolder_11 : decode cX2_addFolder 11 = .ok (.iload_n 2, 1) := by decide +kernel
theorem dX2_addFolder_12 : decode cX2_addFolder 12 = .ok (.invokevirtual 123, 3) := by decide +kernel
theorem dX2_addFolder_15 : decode cX2_addFolder 15 = .ok (.aload_n 0, 1) := by decide +kernel
theorem dX2_addFolder_16 : decode cX2_addFolder 16 = .ok (.iload_n 1, 1) := by decide +kernel
theorem dX2_addFolder_17 : decode cX2_addFolder 17 = .ok (.invokevirtual 88, 3) := by decide +kernel
theorem dX2_addFolder_20 : decode cX2_addFolder 20 = .ok (.ifCond .ne 13, 3) := by decide +kernel
theorem dX2_addFolder_23 : decode cX2_addFolder 23 = .ok (.new 92, 3) := by decide +kernel
theorem dX2_addFolder_26 : decode cX2_addFolder 26 = .ok (.dup, 1) := by decide +kernel
theorem dX2_addFolder_27 : decode cX2_addFolder 27 = .ok (.ldc 94, 2) := by decide +kernel
theorem dX2_addFolder_29 : decode cX2_addFolder 29 = .ok (.invokespecial 96, 3) := by decide +kernel
theorem dX2_addFolder_32 : decode cX2_addFolder 32 = .ok (.athrow, 1) := by decide +kernel
theorem dX2_addFolder_33 : decode cX2_addFolder 33 = .ok (.aload_n 0, 1) := by decide +kernel
theorem dX2_addFolder_34 : decode cX2_addFolder 34 = .ok (.getfield 126, 3) := by decide +kernel
theorem dX2_addFolder_37 : decode cX2_addFolder 37 = .ok (.bipush 12, 2) := by decide +kernel
theorem dX2_addFolder_39 : decode cX2_addFolder 39 = .ok (.if_icmp .lt 13, 3) := by decide +kernel
theorem dX2_addFolder_42 : decode cX2_addFolder 42 = .ok (.new 50, 3) := by decide +kernel
theorem dX2_addFolder_45 : decode cX2_addFolder 45 = .ok (.dup, 1) := by decide +kernel
theorem dX2_addFolder_46 : decode cX2_addFolder 46 = .ok (.ldc 129, 2) := by decide +kernel
theorem dX2_addFolder_48 : decode cX2_addFolder 48 = .ok (.invokespecial 54, 3) := by decide +kernel
theorem dX2_addFolder_51 : decode cX2_addFolder 51 = .ok (.athrow, 1) := by decide +kernel
theorem dX2_addFolder_52 : decode cX2_addFolder 52 = .ok (.aload_n 0, 1) := by decide +kernel
theorem dX2_addFolder_53 : decode cX2_addFolder 53 = .ok (.getfield 126, 3) := by decide +kernel
theorem dX2_addFolder_56 : decode cX2_addFolder 56 = .ok (.istore_n 3, 1) := by decide +kernel
theorem dX2_addFolder_57 : decode cX2_addFolder 57 = .ok (.aload_n 0, 1) := by decide +kernel
theorem dX2_addFolder_58 : decode cX2_addFolder 58 = .ok (.dup, 1) := by decide +kernel
theorem dX2_addFolder_59 : decode cX2_addFolder 59 = .ok (.getfield 126, 3) := by decide +kernel
theorem dX2_addFolder_62 : decode cX2_addFolder 62 = .ok (.iconst 1, 1) := by decide +kernel
theorem dX2_addFolder_63 : decode cX2_addFolder 63 = .ok (.iadd, 1) := by decide +kernel
theorem dX2_addFolder_64 : decode cX2_addFolder 64 = .ok (.putfield 126, 3) := by decide +kernel
theorem dX2_addFolder_67 : decode cX2_addFolder 67 = .ok (.aload_n 0, 1) := by decide +kernel
theorem dX2_addFolder_68 : decode cX2_addFolder 68 = .ok (.getfield 18, 3) := by decide +kernel
theorem dX2_addFolder_71 : decode cX2_addFolder 71 = .ok (.iload_n 3, 1) := by decide +kernel
theorem dX2_addFolder_72 : decode cX2_addFolder 72 = .ok (.iload_n 1, 1) := by decide +kernel
theorem dX2_addFolder_73 : decode cX2_addFolder 73 = .ok (.invokevirtual 74, 3) := by decide +kernel
theorem dX2_addFolder_76 : decode cX2_addFolder 76 = .ok (.aload_n 0, 1) := by decide +kernel
theorem dX2_addFolder_77 : decode cX2_addFolder 77 = .ok (.getfield 21, 3) := by decide +kernel
theorem dX2_addFolder_80 : decode cX2_addFolder 80 = .ok (.iload_n 3, 1) := by decide +kernel
theorem dX2_addFolder_81 : decode cX2_addFolder 81 = .ok (.iload_n 2, 1) := by decide +kernel
theorem dX2_addFolder_82 : decode cX2_addFolder 82 = .ok (.invokevirtual 74, 3) := by decide +kernel
theorem dX2_addFolder_85 : decode cX2_addFolder 85 = .ok (.iload_n 3, 1) := by decide +kernel
theorem dX2_addFolder_86 : decode cX2_addFolder 86 = .ok (.ireturn, 1) := by decide +kernel
set_option maxRecDepth 20000 in
theorem ggX2_shareWith_X2_requireFolder : GoodIn wsX2_shareWith wsX2_requireFolder := goodIn_ca (goodIn_r _ [6, 7, 8, 9, 54, 55, 56, 57, 58, 59, 60, 61, 62, 63, 64, 65, 66, 67, 68, 69] (by decide +kernel) (by decide +kernel)) (goodIn_sub (fun _ h => List.mem_cons_of_mem _ (List.mem_append_left _ (List.mem_append_left _ (List.mem_append_left _ (List.mem_append_right _ h))))) (by decide +kernel))
set_option maxRecDepth 20000 in
theorem gX2_shareWith_X2_requireFolder : GoodIn wsX2_shareWith (wsV RX2 123 RX2 yX2_requireFolder wsX2_requireFolder) := goodIn_app (goodIn_of _ (by decide +kernel)) ggX2_shareWith_X2_requireFolder
set_option maxRecDepth 20000 in
theorem ggX2_shareWith_X2_requireAccount : GoodIn wsX2_shareWith wsX2_requireAccount := goodIn_ca (goodIn_r _ [13, 7, 8, 14, 54, 55, 56, 57, 58, 59, 60, 61, 62, 63, 64, 65, 66, 67, 68, 69] (by decide +kernel) (by decide +kernel)) (goodIn_sub (fun _ h => List.mem_cons_of_mem _ (List.mem_append_left _ (List.mem_append_left _ (List.mem_append_left _ (List.mem_append_right _ h))))) (by decide +kernel))
set_option maxRecDepth 20000 in
theorem gX2_shareWith_X2_requireAccount : GoodIn wsX2_shareWith (wsV RX2 61 RX2 yX2_requireAccount wsX2_requireAccount) := goodIn_app (goodIn_of _ (by decide +kernel)) ggX2_shareWith_X2_requireAccount
set_option maxRecDepth 20000 in
theorem ggX2_shareWith_X2_requireRight : GoodIn wsX2_shareWith wsX2_requireRight := goodIn_ca (goodIn_r _ [17, 18, 19] (by decide +kernel) (by decide +kernel)) (goodIn_sub (fun _ h => List.mem_cons_of_mem _ (List.mem_append_left _ (List.mem_append_left _ (List.mem_append_right _ h)))) (by decide +kernel))
set_option maxRecDepth 20000 in
theorem gX2_shareWith_X2_requireRight : GoodIn wsX2_shareWith (va_wsS RX2 131 yX2_requireRight wsX2_requireRight) := goodIn_app (goodIn_of _ (by decide +kernel)) ggX2_shareWith_X2_requireRight
set_option maxRecDepth 20000 in
theorem ggX2_shareWith_X2_requireNotHeld : GoodIn wsX2_shareWith wsX2_requireNotHeld := goodIn_ca (goodIn_r _ [23, 24, 25, 26, 27, 28, 5, 29, 30, 31, 32, 33, 54, 55, 56, 57, 58, 59, 60, 61, 62, 63, 64, 65, 66, 67, 68, 69] (by decide +kernel) (by decide +kernel)) (goodIn_sub (fun _ h => List.mem_cons_of_mem _ (List.mem_append_left _ (List.mem_append_right _ h))) (by decide +kernel))
set_option maxRecDepth 20000 in
theorem gX2_shareWith_X2_requireNotHeld : GoodIn wsX2_shareWith (wsV RX2 134 RX2 yX2_requireNotHeld wsX2_requireNotHeld) := goodIn_app (goodIn_of _ (by decide +kernel)) ggX2_shareWith_X2_requireNotHeld
set_option maxRecDepth 20000 in
theorem ggX2_shareWith_X0_put : GoodIn wsX2_shareWith wsX0_put := goodIn_ca (goodIn_r _ [38, 39, 40, 70, 71] (by decide +kernel) (by decide +kernel)) (goodIn_sub (fun _ h => List.mem_cons_of_mem _ (List.mem_append_right _ h)) (by decide +kernel))
set_option maxRecDepth 20000 in
theorem gX2_shareWith_X0_put : GoodIn wsX2_shareWith (wsV RX2 97 RX0 yX0_put wsX0_put) := goodIn_app (goodIn_of _ (by decide +kernel)) ggX2_shareWith_X0_put
set_option maxRecDepth 20000 in
theorem ggX2_shareWith_X2_sharesOf : GoodIn wsX2_shareWith wsX2_sharesOf := goodIn_ca (goodIn_r _ [44, 1, 45, 46, 47, 48, 37, 49, 39, 50, 51, 52, 53, 40, 54, 55, 56, 57, 58, 59, 60, 61, 62, 63, 64, 65, 66, 67, 68, 69, 70, 71] (by decide +kernel) (by decide +kernel)) (goodIn_sub (fun _ h => List.mem_cons_of_mem _ (List.mem_append_right _ h)) (by decide +kernel))
set_option maxRecDepth 20000 in
theorem gX2_shareWith_X2_sharesOf : GoodIn wsX2_shareWith (wsV RX2 137 RX2 yX2_sharesOf wsX2_sharesOf) := goodIn_app (goodIn_of _ (by decide +kernel)) ggX2_shareWith_X2_sharesOf
theorem dX2_shareWith_0 : decode cX2_shareWith 0 = .ok (.aload_n 0, 1) := by decide +kernel
theorem dX2_shareWith_1 : decode cX2_shareWith 1 = .ok (.iload_n 1, 1) := by decide +kernel
theorem dX2_shareWith_2 : decode cX2_shareWith 2 = .ok (.invokevirtual 123, 3) := by decide +kernel
theorem dX2_shareWith_5 : decode cX2_shareWith 5 = .ok (.aload_n 0, 1) := by decide +kernel
theorem dX2_shareWith_6 : decode cX2_shareWith 6 = .ok (.iload_n 2, 1) := by decide +kernel
theorem dX2_shareWith_7 : decode cX2_shareWith 7 = .ok (.invokevirtual 61, 3) := by decide +kernel
theorem dX2_shareWith_10 : decode cX2_shareWith 10 = .ok (.iload_n 3, 1) := by decide +kernel
theorem dX2_shareWith_11 : decode cX2_shareWith 11 = .ok (.iconst 0, 1) := by decide +kernel
theorem dX2_shareWith_12 : decode cX2_shareWith 12 = .ok (.iconst 2, 1) := by decide +kernel
theorem dX2_shareWith_13 : decode cX2_shareWith 13 = .ok (.invokestatic 131, 3) := by decide +kernel
theorem dX2_shareWith_16 : decode cX2_shareWith 16 = .ok (.aload_n 0, 1) := by decide +kernel
theorem dX2_shareWith_17 : decode cX2_shareWith 17 = .ok (.iload_n 1, 1) := by decide +kernel
theorem dX2_shareWith_18 : decode cX2_shareWith 18 = .ok (.invokevirtual 134, 3) := by decide +kernel
theorem dX2_shareWith_21 : decode cX2_shareWith 21 = .ok (.aload_n 0, 1) := by decide +kernel
theorem dX2_shareWith_22 : decode cX2_shareWith 22 = .ok (.getfield 37, 3) := by decide +kernel
theorem dX2_shareWith_25 : decode cX2_shareWith 25 = .ok (.iload_n 1, 1) := by decide +kernel
theorem dX2_shareWith_26 : decode cX2_shareWith 26 = .ok (.iload_n 2, 1) := by decide +kernel
theorem dX2_shareWith_27 : decode cX2_shareWith 27 = .ok (.iload_n 3, 1) := by decide +kernel
theorem dX2_shareWith_28 : decode cX2_shareWith 28 = .ok (.invokevirtual 97, 3) := by decide +kernel
theorem dX2_shareWith_31 : decode cX2_shareWith 31 = .ok (.aload_n 0, 1) := by decide +kernel
theorem dX2_shareWith_32 : decode cX2_shareWith 32 = .ok (.iload_n 1, 1) := by decide +kernel
theorem dX2_shareWith_33 : decode cX2_shareWith 33 = .ok (.invokevirtual 137, 3) := by decide +kernel
theorem dX2_shareWith_36 : decode cX2_shareWith 36 = .ok (.ireturn, 1) := by decide +kernel
set_option maxRecDepth 20000 in
theorem ggX2_shareWithGroup_X2_requireFolder : GoodIn wsX2_shareWithGroup wsX2_requireFolder := goodIn_ca (goodIn_r _ [6, 7, 8, 9, 54, 55, 56, 57, 58, 59, 60, 61, 62, 63, 64, 65, 66, 67, 68, 69] (by decide +kernel) (by decide +kernel)) (goodIn_sub (fun _ h => List.mem_cons_of_mem _ (List.mem_append_left _ (List.mem_append_left _ (List.mem_append_left _ (List.mem_append_right _ h))))) (by decide +kernel))
set_option maxRecDepth 20000 in
theorem gX2_shareWithGroup_X2_requireFolder : GoodIn wsX2_shareWithGroup (wsV RX2 123 RX2 yX2_requireFolder wsX2_requireFolder) := goodIn_app (goodIn_of _ (by decide +kernel)) ggX2_shareWithGroup_X2_requireFolder
set_option maxRecDepth 20000 in
theorem ggX2_shareWithGroup_X2_requireGroup : GoodIn wsX2_shareWithGroup wsX2_requireGroup := goodIn_ca (goodIn_r _ [13, 7, 8, 14, 54, 55, 56, 57, 58, 59, 60, 61, 62, 63, 64, 65, 66, 67, 68, 69] (by decide +kernel) (by decide +kernel)) (goodIn_sub (fun _ h => List.mem_cons_of_mem _ (List.mem_append_left _ (List.mem_append_left _ (List.mem_append_left _ (List.mem_append_right _ h))))) (by decide +kernel))
set_option maxRecDepth 20000 in
theorem gX2_shareWithGroup_X2_requireGroup : GoodIn wsX2_shareWithGroup (wsV RX2 82 RX2 yX2_requireGroup wsX2_requireGroup) := goodIn_app (goodIn_of _ (by decide +kernel)) ggX2_shareWithGroup_X2_requireGroup
set_option maxRecDepth 20000 in
theorem ggX2_shareWithGroup_X2_requireRight : GoodIn wsX2_shareWithGroup wsX2_requireRight := goodIn_ca (goodIn_r _ [17, 18, 19] (by decide +kernel) (by decide +kernel)) (goodIn_sub (fun _ h => List.mem_cons_of_mem _ (List.mem_append_left _ (List.mem_append_left _ (List.mem_append_right _ h)))) (by decide +kernel))
set_option maxRecDepth 20000 in
theorem gX2_shareWithGroup_X2_requireRight : GoodIn wsX2_shareWithGroup (va_wsS RX2 131 yX2_requireRight wsX2_requireRight) := goodIn_app (goodIn_of _ (by decide +kernel)) ggX2_shareWithGroup_X2_requireRight
set_option maxRecDepth 20000 in
theorem ggX2_shareWithGroup_X2_requireNotHeld : GoodIn wsX2_shareWithGroup wsX2_requireNotHeld := goodIn_ca (goodIn_r _ [23, 24, 25, 26, 27, 28, 5, 29, 30, 31, 32, 33, 54, 55, 56, 57, 58, 59, 60, 61, 62, 63, 64, 65, 66, 67, 68, 69] (by decide +kernel) (by decide +kernel)) (goodIn_sub (fun _ h => List.mem_cons_of_mem _ (List.mem_append_left _ (List.mem_append_right _ h))) (by decide +kernel))
set_option maxRecDepth 20000 in
theorem gX2_shareWithGroup_X2_requireNotHeld : GoodIn wsX2_shareWithGroup (wsV RX2 134 RX2 yX2_requireNotHeld wsX2_requireNotHeld) := goodIn_app (goodIn_of _ (by decide +kernel)) ggX2_shareWithGroup_X2_requireNotHeld
set_option maxRecDepth 20000 in
theorem ggX2_shareWithGroup_X0_put : GoodIn wsX2_shareWithGroup wsX0_put := goodIn_ca (goodIn_r _ [38, 39, 40, 70, 71] (by decide +kernel) (by decide +kernel)) (goodIn_sub (fun _ h => List.mem_cons_of_mem _ (List.mem_append_right _ h)) (by decide +kernel))
set_option maxRecDepth 20000 in
theorem gX2_shareWithGroup_X0_put : GoodIn wsX2_shareWithGroup (wsV RX2 97 RX0 yX0_put wsX0_put) := goodIn_app (goodIn_of _ (by decide +kernel)) ggX2_shareWithGroup_X0_put
set_option maxRecDepth 20000 in
theorem ggX2_shareWithGroup_X2_sharesOf : GoodIn wsX2_shareWithGroup wsX2_sharesOf := goodIn_ca (goodIn_r _ [44, 45, 1, 46, 47, 48, 37, 49, 39, 50, 51, 52, 53, 40, 54, 55, 56, 57, 58, 59, 60, 61, 62, 63, 64, 65, 66, 67, 68, 69, 70, 71] (by decide +kernel) (by decide +kernel)) (goodIn_sub (fun _ h => List.mem_cons_of_mem _ (List.mem_append_right _ h)) (by decide +kernel))
set_option maxRecDepth 20000 in
theorem gX2_shareWithGroup_X2_sharesOf : GoodIn wsX2_shareWithGroup (wsV RX2 137 RX2 yX2_sharesOf wsX2_sharesOf) := goodIn_app (goodIn_of _ (by decide +kernel)) ggX2_shareWithGroup_X2_sharesOf
theorem dX2_shareWithGroup_0 : decode cX2_shareWithGroup 0 = .ok (.aload_n 0, 1) := by decide +kernel
theorem dX2_shareWithGroup_1 : decode cX2_shareWithGroup 1 = .ok (.iload_n 1, 1) := by decide +kernel
theorem dX2_shareWithGroup_2 : decode cX2_shareWithGroup 2 = .ok (.invokevirtual 123, 3) := by decide +kernel
theorem dX2_shareWithGroup_5 : decode cX2_shareWithGroup 5 = .ok (.aload_n 0, 1) := by decide +kernel
theorem dX2_shareWithGroup_6 : decode cX2_shareWithGroup 6 = .ok (.iload_n 2, 1) := by decide +kernel
theorem dX2_shareWithGroup_7 : decode cX2_shareWithGroup 7 = .ok (.invokevirtual 82, 3) := by decide +kernel
theorem dX2_shareWithGroup_10 : decode cX2_shareWithGroup 10 = .ok (.iload_n 3, 1) := by decide +kernel
theorem dX2_shareWithGroup_11 : decode cX2_shareWithGroup 11 = .ok (.iconst 0, 1) := by decide +kernel
theorem dX2_shareWithGroup_12 : decode cX2_shareWithGroup 12 = .ok (.iconst 2, 1) := by decide +kernel
theorem dX2_shareWithGroup_13 : decode cX2_shareWithGroup 13 = .ok (.invokestatic 131, 3) := by decide +kernel
theorem dX2_shareWithGroup_16 : decode cX2_shareWithGroup 16 = .ok (.aload_n 0, 1) := by decide +kernel
theorem dX2_shareWithGroup_17 : decode cX2_shareWithGroup 17 = .ok (.iload_n 1, 1) := by decide +kernel
theorem dX2_shareWithGroup_18 : decode cX2_shareWithGroup 18 = .ok (.invokevirtual 134, 3) := by decide +kernel
theorem dX2_shareWithGroup_21 : decode cX2_shareWithGroup 21 = .ok (.aload_n 0, 1) := by decide +kernel
theorem dX2_shareWithGroup_22 : decode cX2_shareWithGroup 22 = .ok (.getfield 40, 3) := by decide +kernel
theorem dX2_shareWithGroup_25 : decode cX2_shareWithGroup 25 = .ok (.iload_n 1, 1) := by decide +kernel
theorem dX2_shareWithGroup_26 : decode cX2_shareWithGroup 26 = .ok (.iload_n 2, 1) := by decide +kernel
theorem dX2_shareWithGroup_27 : decode cX2_shareWithGroup 27 = .ok (.iload_n 3, 1) := by decide +kernel
theorem dX2_shareWithGroup_28 : decode cX2_shareWithGroup 28 = .ok (.invokevirtual 97, 3) := by decide +kernel
theorem dX2_shareWithGroup_31 : decode cX2_shareWithGroup 31 = .ok (.aload_n 0, 1) := by decide +kernel
theorem dX2_shareWithGroup_32 : decode cX2_shareWithGroup 32 = .ok (.iload_n 1, 1) := by decide +kernel
theorem dX2_shareWithGroup_33 : decode cX2_shareWithGroup 33 = .ok (.invokevirtual 137, 3) := by decide +kernel
theorem dX2_shareWithGroup_36 : decode cX2_shareWithGroup 36 = .ok (.ireturn, 1) := by decide +kernel
set_option maxRecDepth 20000 in
theorem ggX2_setBroken_X2_requireFolder : GoodIn wsX2_setBroken wsX2_requireFolder := goodIn_ca (goodIn_r _ [6, 7, 8, 9, 30, 31, 32, 33, 34, 35, 36, 37, 38, 39, 40, 41, 42, 43, 44, 45] (by decide +kernel) (by decide +kernel)) (goodIn_sub (fun _ h => List.mem_cons_of_mem _ (List.mem_append_left _ (List.mem_append_right _ h))) (by decide +kernel))
set_option maxRecDepth 20000 in
theorem gX2_setBroken_X2_requireFolder : GoodIn wsX2_setBroken (wsV RX2 123 RX2 yX2_requireFolder wsX2_requireFolder) := goodIn_app (goodIn_of _ (by decide +kernel)) ggX2_setBroken_X2_requireFolder
set_option maxRecDepth 20000 in
theorem ggX2_setBroken_X2_requireNotHeld : GoodIn wsX2_setBroken wsX2_requireNotHeld := goodIn_ca (goodIn_r _ [13, 14, 15, 16, 17, 18, 5, 19, 20, 21, 22, 23, 30, 31, 32, 33, 34, 35, 36, 37, 38, 39, 40, 41, 42, 43, 44, 45] (by decide +kernel) (by decide +kernel)) (goodIn_sub (fun _ h => List.mem_cons_of_mem _ (List.mem_append_right _ h)) (by decide +kernel))
set_option maxRecDepth 20000 in
theorem gX2_setBroken_X2_requireNotHeld : GoodIn wsX2_setBroken (wsV RX2 134 RX2 yX2_requireNotHeld wsX2_requireNotHeld) := goodIn_app (goodIn_of _ (by decide +kernel)) ggX2_setBroken_X2_requireNotHeld
set_option maxRecDepth 20000 in
theorem ggX2_setBroken_X2_contains : GoodIn wsX2_setBroken wsX2_contains := goodIn_r _ [23] (by decide +kernel) (by decide +kernel)
set_option maxRecDepth 20000 in
theorem gX2_setBroken_X2_contains : GoodIn wsX2_setBroken (va_wsS RX2 106 yX2_contains wsX2_contains) := goodIn_app (goodIn_of _ (by decide +kernel)) ggX2_setBroken_X2_contains
set_option maxRecDepth 20000 in
theorem ggX2_setBroken_X2_with : GoodIn wsX2_setBroken wsX2_with := goodIn_r _ [26] (by decide +kernel) (by decide +kernel)
set_option maxRecDepth 20000 in
theorem gX2_setBroken_X2_with : GoodIn wsX2_setBroken (va_wsS RX2 57 yX2_with wsX2_with) := goodIn_app (goodIn_of _ (by decide +kernel)) ggX2_setBroken_X2_with
set_option maxRecDepth 20000 in
theorem ggX2_setBroken_X2_without : GoodIn wsX2_setBroken wsX2_without := goodIn_r _ [29] (by decide +kernel) (by decide +kernel)
set_option maxRecDepth 20000 in
theorem gX2_setBroken_X2_without : GoodIn wsX2_setBroken (va_wsS RX2 143 yX2_without wsX2_without) := goodIn_app (goodIn_of _ (by decide +kernel)) ggX2_setBroken_X2_without
theorem dX2_setBroken_0 : decode cX2_setBroken 0 = .ok (.aload_n 0, 1) := by decide +kernel
theorem dX2_setBroken_1 : decode cX2_setBroken 1 = .ok (.iload_n 1, 1) := by decide +kernel
theorem dX2_setBroken_2 : decode cX2_setBroken 2 = .ok (.invokevirtual 123, 3) := by decide +kernel
theorem dX2_setBroken_5 : decode cX2_setBroken 5 = .ok (.aload_n 0, 1) := by decide +kernel
theorem dX2_setBroken_6 : decode cX2_setBroken 6 = .ok (.iload_n 1, 1) := by decide +kernel
theorem dX2_setBroken_7 : decode cX2_setBroken 7 = .ok (.invokevirtual 134, 3) := by decide +kernel
theorem dX2_setBroken_10 : decode cX2_setBroken 10 = .ok (.aload_n 0, 1) := by decide +kernel
theorem dX2_setBroken_11 : decode cX2_setBroken 11 = .ok (.getfield 140, 3) := by decide +kernel
theorem dX2_setBroken_14 : decode cX2_setBroken 14 = .ok (.iload_n 1, 1) := by decide +kernel
theorem dX2_setBroken_15 : decode cX2_setBroken 15 = .ok (.invokestatic 106, 3) := by decide +kernel
theorem dX2_setBroken_18 : decode cX2_setBroken 18 = .ok (.istore_n 3, 1) := by decide +kernel
theorem dX2_setBroken_19 : decode cX2_setBroken 19 = .ok (.aload_n 0, 1) := by decide +kernel
theorem dX2_setBroken_20 : decode cX2_setBroken 20 = .ok (.iload_n 2, 1) := by decide +kernel
theorem dX2_setBroken_21 : decode cX2_setBroken 21 = .ok (.ifCond .eq 14, 3) := by decide +kernel
theorem dX2_setBroken_24 : decode cX2_setBroken 24 = .ok (.aload_n 0, 1) := by decide +kernel
theorem dX2_setBroken_25 : decode cX2_setBroken 25 = .ok (.getfield 140, 3) := by decide +kernel
theorem dX2_setBroken_28 : decode cX2_setBroken 28 = .ok (.iload_n 1, 1) := by decide +kernel
theorem dX2_setBroken_29 : decode cX2_setBroken 29 = .ok (.invokestatic 57, 3) := by decide +kernel
theorem dX2_setBroken_32 : decode cX2_setBroken 32 = .ok (.goto 11, 3) := by decide +kernel
theorem dX2_setBroken_35 : decode cX2_setBroken 35 = .ok (.aload_n 0, 1) := by decide +kernel
theorem dX2_setBroken_36 : decode cX2_setBroken 36 = .ok (.getfield 140, 3) := by decide +kernel
theorem dX2_setBroken_39 : decode cX2_setBroken 39 = .ok (.iload_n 1, 1) := by decide +kernel
theorem dX2_setBroken_40 : decode cX2_setBroken 40 = .ok (.invokestatic 143, 3) := by decide +kernel
theorem dX2_setBroken_43 : decode cX2_setBroken 43 = .ok (.putfield 140, 3) := by decide +kernel
theorem dX2_setBroken_46 : decode cX2_setBroken 46 = .ok (.iload_n 3, 1) := by decide +kernel
theorem dX2_setBroken_47 : decode cX2_setBroken 47 = .ok (.ireturn, 1) := by decide +kernel
set_option maxRecDepth 20000 in
theorem ggX2_owner_X2_requireFolder : GoodIn wsX2_owner wsX2_requireFolder := goodIn_ca (goodIn_r _ [6, 7, 8, 9, 17, 18, 19, 20, 21, 22, 23, 24, 25, 26, 27, 28, 29, 30, 31, 32] (by decide +kernel) (by decide +kernel)) (goodIn_sub (fun _ h => List.mem_cons_of_mem _ (List.mem_append_left _ (List.mem_append_right _ h))) (by decide +kernel))
set_option maxRecDepth 20000 in
theorem gX2_owner_X2_requireFolder : GoodIn wsX2_owner (wsV RX2 123 RX2 yX2_requireFolder wsX2_requireFolder) := goodIn_app (goodIn_of _ (by decide +kernel)) ggX2_owner_X2_requireFolder
set_option maxRecDepth 20000 in
theorem ggX2_owner_X1_at : GoodIn wsX2_owner wsX1_at := goodIn_ca (goodIn_r _ [14, 15, 16, 33, 34] (by decide +kernel) (by decide +kernel)) (goodIn_sub (fun _ h => List.mem_cons_of_mem _ (List.mem_append_right _ h)) (by decide +kernel))
set_option maxRecDepth 20000 in
theorem gX2_owner_X1_at : GoodIn wsX2_owner (wsV RX2 70 RX1 yX1_at wsX1_at) := goodIn_app (goodIn_of _ (by decide +kernel)) ggX2_owner_X1_at
theorem dX2_owner_0 : decode cX2_owner 0 = .ok (.aload_n 0, 1) := by decide +kernel
theorem dX2_owner_1 : decode cX2_owner 1 = .ok (.iload_n 1, 1) := by decide +kernel
theorem dX2_owner_2 : decode cX2_owner 2 = .ok (.invokevirtual 123, 3) := by decide +kernel
theorem dX2_owner_5 : decode cX2_owner 5 = .ok (.aload_n 0, 1) := by decide +kernel
theorem dX2_owner_6 : decode cX2_owner 6 = .ok (.getfield 18, 3) := by decide +kernel
theorem dX2_owner_9 : decode cX2_owner 9 = .ok (.iload_n 1, 1) := by decide +kernel
theorem dX2_owner_10 : decode cX2_owner 10 = .ok (.invokevirtual 70, 3) := by decide +kernel
theorem dX2_owner_13 : decode cX2_owner 13 = .ok (.ireturn, 1) := by decide +kernel
set_option maxRecDepth 20000 in
theorem ggX2_right_X2_requireAccount : GoodIn wsX2_right wsX2_requireAccount := goodIn_ca (goodIn_r _ [5, 6, 7, 8, 83, 84, 85, 86, 87, 88, 89, 90, 91, 92, 93, 94, 95, 96, 97, 98] (by decide +kernel) (by decide +kernel)) (goodIn_sub (fun _ h => List.mem_cons_of_mem _ (List.mem_append_left _ (List.mem_append_right _ h))) (by decide +kernel))
set_option maxRecDepth 20000 in
theorem gX2_right_X2_requireAccount : GoodIn wsX2_right (wsV RX2 61 RX2 yX2_requireAccount wsX2_requireAccount) := goodIn_app (goodIn_of _ (by decide +kernel)) ggX2_right_X2_requireAccount
set_option maxRecDepth 20000 in
theorem ggX2_right_X2_requireFolder : GoodIn wsX2_right wsX2_requireFolder := goodIn_ca (goodIn_r _ [12, 6, 7, 13, 83, 84, 85, 86, 87, 88, 89, 90, 91, 92, 93, 94, 95, 96, 97, 98] (by decide +kernel) (by decide +kernel)) (goodIn_sub (fun _ h => List.mem_cons_of_mem _ (List.mem_append_left _ (List.mem_append_right _ h))) (by decide +kernel))
set_option maxRecDepth 20000 in
theorem gX2_right_X2_requireFolder : GoodIn wsX2_right (wsV RX2 123 RX2 yX2_requireFolder wsX2_requireFolder) := goodIn_app (goodIn_of _ (by decide +kernel)) ggX2_right_X2_requireFolder
set_option maxRecDepth 20000 in
theorem ggX2_right_X2_groupsOf : GoodIn wsX2_right wsX2_groupsOf := goodIn_ca (goodIn_r _ [17, 18, 19, 20, 21, 4, 22, 23, 24, 25, 26, 27, 28, 29, 30, 31, 32, 33, 34, 35, 36, 37, 38, 39, 40, 41, 42, 43, 44, 45, 46, 47, 48, 49, 83, 84, 85, 86, 87, 88, 89, 90, 91, 92, 93, 94, 95, 96, 97, 98, 99, 100] (by decide +kernel) (by decide +kernel)) (goodIn_sub (fun _ h => List.mem_cons_of_mem _ (List.mem_append_right _ h)) (by decide +kernel))
set_option maxRecDepth 20000 in
theorem gX2_right_X2_groupsOf : GoodIn wsX2_right (wsV RX2 120 RX2 yX2_groupsOf wsX2_groupsOf) := goodIn_app (goodIn_of _ (by decide +kernel)) ggX2_right_X2_groupsOf
set_option maxRecDepth 20000 in
theorem ggX2_right_X2_rightAmong : GoodIn wsX2_right wsX2_rightAmong := goodIn_ca (goodIn_r _ [53, 54, 55, 56, 57, 58, 59, 60, 61, 4, 62, 63, 38, 39, 40, 64, 65, 66, 67, 68, 69, 70, 71, 72, 73, 74, 75, 18, 76, 24, 25, 26, 27, 28, 29, 30, 77, 78, 79, 80, 81, 82, 83, 84, 85, 86, 87, 88, 89, 90, 91, 92, 93, 94, 95, 96, 97, 98, 101, 102, 99, 100] (by decide +kernel) (by decide +kernel)) (goodIn_sub (fun _ h => List.mem_cons_of_mem _ (List.mem_append_right _ h)) (by decide +kernel))
set_option maxRecDepth 20000 in
theorem gX2_right_X2_rightAmong : GoodIn wsX2_right (wsV RX2 146 RX2 yX2_rightAmong wsX2_rightAmong) := goodIn_app (goodIn_of _ (by decide +kernel)) ggX2_right_X2_rightAmong
theorem dX2_right_0 : decode cX2_right 0 = .ok (.aload_n 0, 1) := by decide +kernel
theorem dX2_right_1 : decode cX2_right 1 = .ok (.iload_n 1, 1) := by decide +kernel
theorem dX2_right_2 : decode cX2_right 2 = .ok (.invokevirtual 61, 3) := by decide +kernel
theorem dX2_right_5 : decode cX2_right 5 = .ok (.aload_n 0, 1) := by decide +kernel
theorem dX2_right_6 : decode cX2_right 6 = .ok (.iload_n 2, 1) := by decide +kernel
theorem dX2_right_7 : decode cX2_right 7 = .ok (.invokevirtual 123, 3) := by decide +kernel
theorem dX2_right_10 : decode cX2_right 10 = .ok (.aload_n 0, 1) := by decide +kernel
theorem dX2_right_11 : decode cX2_right 11 = .ok (.iload_n 1, 1) := by decide +kernel
theorem dX2_right_12 : decode cX2_right 12 = .ok (.aload_n 0, 1) := by decide +kernel
theorem dX2_right_13 : decode cX2_right 13 = .ok (.iload_n 1, 1) := by decide +kernel
theorem dX2_right_14 : decode cX2_right 14 = .ok (.invokevirtual 120, 3) := by decide +kernel
theorem dX2_right_17 : decode cX2_right 17 = .ok (.iload_n 2, 1) := by decide +kernel
theorem dX2_right_18 : decode cX2_right 18 = .ok (.invokevirtual 146, 3) := by decide +kernel
theorem dX2_right_21 : decode cX2_right 21 = .ok (.ireturn, 1) := by decide +kernel
set_option maxRecDepth 20000 in
theorem ggX2_rightByWalking_X2_requireAccount : GoodIn wsX2_rightByWalking wsX2_requireAccount := goodIn_ca (goodIn_r _ [6, 7, 8, 9, 72, 73, 74, 75, 76, 77, 78, 79, 80, 81, 82, 83, 84, 85, 86, 87] (by decide +kernel) (by decide +kernel)) (goodIn_sub (fun _ h => List.mem_cons_of_mem _ (List.mem_append_left _ (List.mem_append_right _ h))) (by decide +kernel))
set_option maxRecDepth 20000 in
theorem gX2_rightByWalking_X2_requireAccount : GoodIn wsX2_rightByWalking (wsV RX2 61 RX2 yX2_requireAccount wsX2_requireAccount) := goodIn_app (goodIn_of _ (by decide +kernel)) ggX2_rightByWalking_X2_requireAccount
set_option maxRecDepth 20000 in
theorem ggX2_rightByWalking_X2_requireFolder : GoodIn wsX2_rightByWalking wsX2_requireFolder := goodIn_ca (goodIn_r _ [13, 7, 8, 14, 72, 73, 74, 75, 76, 77, 78, 79, 80, 81, 82, 83, 84, 85, 86, 87] (by decide +kernel) (by decide +kernel)) (goodIn_sub (fun _ h => List.mem_cons_of_mem _ (List.mem_append_left _ (List.mem_append_right _ h))) (by decide +kernel))
set_option maxRecDepth 20000 in
theorem gX2_rightByWalking_X2_requireFolder : GoodIn wsX2_rightByWalking (wsV RX2 123 RX2 yX2_requireFolder wsX2_requireFolder) := goodIn_app (goodIn_of _ (by decide +kernel)) ggX2_rightByWalking_X2_requireFolder
set_option maxRecDepth 20000 in
theorem ggX2_rightByWalking_X2_isActive : GoodIn wsX2_rightByWalking wsX2_isActive := goodIn_r _ [18, 19, 20, 21, 5, 22, 72, 73, 74, 75, 76, 77, 78, 79, 80, 81, 82, 83, 84, 85, 86, 87] (by decide +kernel) (by decide +kernel)
set_option maxRecDepth 20000 in
theorem gX2_rightByWalking_X2_isActive : GoodIn wsX2_rightByWalking (wsV RX2 88 RX2 yX2_isActive wsX2_isActive) := goodIn_app (goodIn_of _ (by decide +kernel)) ggX2_rightByWalking_X2_isActive
set_option maxRecDepth 20000 in
theorem ggX2_rightByWalking_X1_at : GoodIn wsX2_rightByWalking wsX1_at := goodIn_ca (goodIn_r _ [27, 28, 29, 88, 89] (by decide +kernel) (by decide +kernel)) (goodIn_sub (fun _ h => List.mem_cons_of_mem _ (List.mem_append_right _ h)) (by decide +kernel))
set_option maxRecDepth 20000 in
theorem gX2_rightByWalking_X1_at : GoodIn wsX2_rightByWalking (wsV RX2 70 RX1 yX1_at wsX1_at) := goodIn_app (goodIn_of _ (by decide +kernel)) ggX2_rightByWalking_X1_at
set_option maxRecDepth 20000 in
theorem ggX2_rightByWalking_X2_bestHandedByWalking : GoodIn wsX2_rightByWalking wsX2_bestHandedByWalking := goodIn_ca (goodIn_r _ [33, 34, 35, 36, 37, 38, 39, 40, 5, 41, 42, 43, 20, 21, 22, 23, 24, 25, 26, 27, 28, 29, 30, 31, 32, 44, 45, 46, 47, 48, 49, 50, 51, 52, 53, 54, 55, 56, 57, 58, 59, 60, 61, 62, 63, 64, 65, 66, 67, 68, 69, 70, 71, 72, 73, 74, 75, 76, 77, 78, 79, 80, 81, 82, 83, 84, 85, 86, 87, 88, 89, 90, 91] (by decide +kernel) (by decide +kernel)) (goodIn_sub (fun _ h => List.mem_cons_of_mem _ (List.mem_append_right _ h)) (by decide +kernel))
set_option maxRecDepth 20000 in
theorem gX2_rightByWalking_X2_bestHandedByWalking : GoodIn wsX2_rightByWalking (wsV RX2 150 RX2 yX2_bestHandedByWalking wsX2_bestHandedByWalking) := goodIn_app (goodIn_of _ (by decide +kernel)) ggX2_rightByWalking_X2_bestHandedByWalking
theorem dX2_rightByWalking_0 : decode cX2_rightByWalking 0 = .ok (.aload_n 0, 1) := by decide +kernel
theorem dX2_rightByWalking_1 : decode cX2_rightByWalking 1 = .ok (.iload_n 1, 1) := by decide +kernel
theorem dX2_rightByWalking_2 : decode cX2_rightByWalking 2 = .ok (.invokevirtual 61, 3) := by decide +kernel
theorem dX2_rightByWalking_5 : decode cX2_rightByWalking 5 = .ok (.aload_n 0, 1) := by decide +kernel
theorem dX2_rightByWalking_6 : decode cX2_rightByWalking 6 = .ok (.iload_n 2, 1) := by decide +kernel
theorem dX2_rightByWalking_7 : decode cX2_rightByWalking 7 = .ok (.invokevirtual 123, 3) := by decide +kernel
theorem dX2_rightByWalking_10 : decode cX2_rightByWalking 10 = .ok (.aload_n 0, 1) := by decide +kernel
theorem dX2_rightByWalking_11 : decode cX2_rightByWalking 11 = .ok (.iload_n 1, 1) := by decide +kernel
theorem dX2_rightByWalking_12 : decode cX2_rightByWalking 12 = .ok (.invokevirtual 88, 3) := by decide +kernel
theorem dX2_rightByWalking_15 : decode cX2_rightByWalking 15 = .ok (.ifCond .ne 5, 3) := by decide +kernel
theorem dX2_rightByWalking_18 : decode cX2_rightByWalking 18 = .ok (.iconst 0, 1) := by decide +kernel
theorem dX2_rightByWalking_19 : decode cX2_rightByWalking 19 = .ok (.ireturn, 1) := by decide +kernel
theorem dX2_rightByWalking_20 : decode cX2_rightByWalking 20 = .ok (.aload_n 0, 1) := by decide +kernel
theorem dX2_rightByWalking_21 : decode cX2_rightByWalking 21 = .ok (.getfield 18, 3) := by decide +kernel
theorem dX2_rightByWalking_24 : decode cX2_rightByWalking 24 = .ok (.iload_n 2, 1) := by decide +kernel
theorem dX2_rightByWalking_25 : decode cX2_rightByWalking 25 = .ok (.invokevirtual 70, 3) := by decide +kernel
theorem dX2_rightByWalking_28 : decode cX2_rightByWalking 28 = .ok (.iload_n 1, 1) := by decide +kernel
theorem dX2_rightByWalking_29 : decode cX2_rightByWalking 29 = .ok (.if_icmp .ne 7, 3) := by decide +kernel
theorem dX2_rightByWalking_32 : decode cX2_rightByWalking 32 = .ok (.iconst 3, 1) := by decide +kernel
theorem dX2_rightByWalking_33 : decode cX2_rightByWalking 33 = .ok (.goto 10, 3) := by decide +kernel
theorem dX2_rightByWalking_36 : decode cX2_rightByWalking 36 = .ok (.aload_n 0, 1) := by decide +kernel
theorem dX2_rightByWalking_37 : decode cX2_rightByWalking 37 = .ok (.iload_n 1, 1) := by decide +kernel
theorem dX2_rightByWalking_38 : decode cX2_rightByWalking 38 = .ok (.iload_n 2, 1) := by decide +kernel
theorem dX2_rightByWalking_39 : decode cX2_rightByWalking 39 = .ok (.iconst 0, 1) := by decide +kernel
theorem dX2_rightByWalking_40 : decode cX2_rightByWalking 40 = .ok (.invokevirtual 150, 3) := by decide +kernel
theorem dX2_rightByWalking_43 : decode cX2_rightByWalking 43 = .ok (.ireturn, 1) := by decide +kernel
set_option maxRecDepth 20000 in
theorem ggX2_holders_X2_requireFolder : GoodIn wsX2_holders wsX2_requireFolder := goodIn_ca (goodIn_r _ [6, 7, 8, 9, 84, 85, 86, 87, 88, 89, 90, 91, 92, 93, 94, 95, 96, 97, 98, 99] (by decide +kernel) (by decide +kernel)) (goodIn_sub (fun _ h => List.mem_cons_of_mem _ (List.mem_append_left _ (List.mem_append_left _ (List.mem_append_right _ h)))) (by decide +kernel))
set_option maxRecDepth 20000 in
theorem gX2_holders_X2_requireFolder : GoodIn wsX2_holders (wsV RX2 123 RX2 yX2_requireFolder wsX2_requireFolder) := goodIn_app (goodIn_of _ (by decide +kernel)) ggX2_holders_X2_requireFolder
set_option maxRecDepth 20000 in
theorem ggX2_holders_X2_requireRight : GoodIn wsX2_holders wsX2_requireRight := goodIn_ca (goodIn_r _ [12, 13, 14] (by decide +kernel) (by decide +kernel)) (goodIn_sub (fun _ h => List.mem_cons_of_mem _ (List.mem_append_left _ (List.mem_append_right _ h))) (by decide +kernel))
set_option maxRecDepth 20000 in
theorem gX2_holders_X2_requireRight : GoodIn wsX2_holders (va_wsS RX2 131 yX2_requireRight wsX2_requireRight) := goodIn_app (goodIn_of _ (by decide +kernel)) ggX2_holders_X2_requireRight
set_option maxRecDepth 20000 in
theorem ggX2_holders_X2_groupsOf : GoodIn wsX2_holders wsX2_groupsOf := goodIn_ca (goodIn_r _ [18, 19, 20, 21, 22, 5, 23, 24, 25, 26, 27, 28, 29, 30, 31, 32, 33, 34, 35, 36, 37, 38, 39, 40, 41, 42, 43, 44, 45, 46, 47, 48, 49, 50, 84, 85, 86, 87, 88, 89, 90, 91, 92, 93, 94, 95, 96, 97, 98, 99, 100, 101] (by decide +kernel) (by decide +kernel)) (goodIn_sub (fun _ h => List.mem_cons_of_mem _ (List.mem_append_right _ h)) (by decide +kernel))
set_option maxRecDepth 20000 in
theorem gX2_holders_X2_groupsOf : GoodIn wsX2_holders (wsV RX2 120 RX2 yX2_groupsOf wsX2_groupsOf) := goodIn_app (goodIn_of _ (by decide +kernel)) ggX2_holders_X2_groupsOf
set_option maxRecDepth 20000 in
theorem ggX2_holders_X2_rightAmong : GoodIn wsX2_holders wsX2_rightAmong := goodIn_ca (goodIn_r _ [54, 55, 56, 57, 58, 59, 60, 61, 62, 5, 63, 64, 39, 40, 41, 65, 66, 67, 68, 69, 70, 71, 72, 73, 74, 75, 76, 19, 77, 25, 26, 27, 28, 29, 30, 31, 78, 79, 80, 81, 82, 83, 84, 85, 86, 87, 88, 89, 90, 91, 92, 93, 94, 95, 96, 97, 98, 99, 102, 103, 100, 101] (by decide +kernel) (by decide +kernel)) (goodIn_sub (fun _ h => List.mem_cons_of_mem _ (List.mem_append_right _ h)) (by decide +kernel))
set_option maxRecDepth 20000 in
theorem gX2_holders_X2_rightAmong : GoodIn wsX2_holders (wsV RX2 146 RX2 yX2_rightAmong wsX2_rightAmong) := goodIn_app (goodIn_of _ (by decide +kernel)) ggX2_holders_X2_rightAmong
theorem dX2_holders_0 : decode cX2_holders 0 = .ok (.aload_n 0, 1) := by decide +kernel
theorem dX2_holders_1 : decode cX2_holders 1 = .ok (.iload_n 1, 1) := by decide +kernel
theorem dX2_holders_2 : decode cX2_holders 2 = .ok (.invokevirtual 123, 3) := by decide +kernel
theorem dX2_holders_5 : decode cX2_holders 5 = .ok (.iload_n 2, 1) := by decide +kernel
theorem dX2_holders_6 : decode cX2_holders 6 = .ok (.iconst 1, 1) := by decide +kernel
theorem dX2_holders_7 : decode cX2_holders 7 = .ok (.iconst 3, 1) := by decide +kernel
theorem dX2_holders_8 : decode cX2_holders 8 = .ok (.invokestatic 131, 3) := by decide +kernel
theorem dX2_holders_11 : decode cX2_holders 11 = .ok (.iconst 0, 1) := by decide +kernel
theorem dX2_holders_12 : decode cX2_holders 12 = .ok (.istore_n 3, 1) := by decide +kernel
theorem dX2_holders_13 : decode cX2_holders 13 = .ok (.iconst 0, 1) := by decide +kernel
theorem dX2_holders_14 : decode cX2_holders 14 = .ok (.istore 4, 2) := by decide +kernel
theorem dX2_holders_16 : decode cX2_holders 16 = .ok (.iload 4, 2) := by decide +kernel
theorem dX2_holders_18 : decode cX2_holders 18 = .ok (.aload_n 0, 1) := by decide +kernel
theorem dX2_holders_19 : decode cX2_holders 19 = .ok (.getfield 43, 3) := by decide +kernel
theorem dX2_holders_22 : decode cX2_holders 22 = .ok (.if_icmp .ge 29, 3) := by decide +kernel
theorem dX2_holders_25 : decode cX2_holders 25 = .ok (.aload_n 0, 1) := by decide +kernel
theorem dX2_holders_26 : decode cX2_holders 26 = .ok (.iload 4, 2) := by decide +kernel
theorem dX2_holders_28 : decode cX2_holders 28 = .ok (.aload_n 0, 1) := by decide +kernel
theorem dX2_holders_29 : decode cX2_holders 29 = .ok (.iload 4, 2) := by decide +kernel
theorem dX2_holders_31 : decode cX2_holders 31 = .ok (.invokevirtual 120, 3) := by decide +kernel
theorem dX2_holders_34 : decode cX2_holders 34 = .ok (.iload_n 1, 1) := by decide +kernel
theorem dX2_holders_35 : decode cX2_holders 35 = .ok (.invokevirtual 146, 3) := by decide +kernel
theorem dX2_holders_38 : decode cX2_holders 38 = .ok (.iload_n 2, 1) := by decide +kernel
theorem dX2_holders_39 : decode cX2_holders 39 = .ok (.if_icmp .lt 6, 3) := by decide +kernel
theorem dX2_holders_42 : decode cX2_holders 42 = .ok (.iinc 3 1, 3) := by decide +kernel
theorem dX2_holders_45 : decode cX2_holders 45 = .ok (.iinc 4 1, 3) := by decide +kernel
theorem dX2_holders_48 : decode cX2_holders 48 = .ok (.goto (-32), 3) := by decide +kernel
theorem dX2_holders_51 : decode cX2_holders 51 = .ok (.iload_n 3, 1) := by decide +kernel
theorem dX2_holders_52 : decode cX2_holders 52 = .ok (.ireturn, 1) := by decide +kernel
set_option maxRecDepth 20000 in
theorem ggX2_addRoom_X2_requireGroup : GoodIn wsX2_addRoom wsX2_requireGroup := goodIn_ca (goodIn_r _ [9, 10, 11, 12, 19, 20, 21, 22, 23, 24, 25, 26, 27, 28, 29, 30, 31, 32, 33, 34] (by decide +kernel) (by decide +kernel)) (goodIn_sub (fun _ h => List.mem_cons_of_mem _ (List.mem_append_left _ (List.mem_append_right _ h))) (by decide +kernel))
set_option maxRecDepth 20000 in
theorem gX2_addRoom_X2_requireGroup : GoodIn wsX2_addRoom (wsV RX2 82 RX2 yX2_requireGroup wsX2_requireGroup) := goodIn_app (goodIn_of _ (by decide +kernel)) ggX2_addRoom_X2_requireGroup
set_option maxRecDepth 20000 in
theorem ggX2_addRoom_X1_put : GoodIn wsX2_addRoom wsX1_put := goodIn_ca (goodIn_r _ [17, 18, 35, 36] (by decide +kernel) (by decide +kernel)) (goodIn_sub (fun _ h => List.mem_cons_of_mem _ (List.mem_append_right _ h)) (by decide +kernel))
set_option maxRecDepth 20000 in
theorem gX2_addRoom_X1_put : GoodIn wsX2_addRoom (wsV RX2 74 RX1 yX1_put wsX1_put) := goodIn_app (goodIn_of _ (by decide +kernel)) ggX2_addRoom_X1_put
theorem dX2_addRoom_0 : decode cX2_addRoom 0 = .ok (.aload_n 0, 1) := by decide +kernel
theorem dX2_addRoom_1 : decode cX2_addRoom 1 = .ok (.iload_n 1, 1) := by decide +kernel
theorem dX2_addRoom_2 : decode cX2_addRoom 2 = .ok (.invokevirtual 82, 3) := by decide +kernel
theorem dX2_addRoom_5 : decode cX2_addRoom 5 = .ok (.aload_n 0, 1) := by decide +kernel
theorem dX2_addRoom_6 : decode cX2_addRoom 6 = .ok (.getfield 153, 3) := by decide +kernel
theorem dX2_addRoom_9 : decode cX2_addRoom 9 = .ok (.iconst 4, 1) := by decide +kernel
theorem dX2_addRoom_10 : decode cX2_addRoom 10 = .ok (.if_icmp .lt 13, 3) := by decide +kernel
theorem dX2_addRoom_13 : decode cX2_addRoom 13 = .ok (.new 50, 3) := by decide +kernel
theorem dX2_addRoom_16 : decode cX2_addRoom 16 = .ok (.dup, 1) := by decide +kernel
theorem dX2_addRoom_17 : decode cX2_addRoom 17 = .ok (.ldc 156, 2) := by decide +kernel
theorem dX2_addRoom_19 : decode cX2_addRoom 19 = .ok (.invokespecial 54, 3) := by decide +kernel
theorem dX2_addRoom_22 : decode cX2_addRoom 22 = .ok (.athrow, 1) := by decide +kernel
theorem dX2_addRoom_23 : decode cX2_addRoom 23 = .ok (.aload_n 0, 1) := by decide +kernel
theorem dX2_addRoom_24 : decode cX2_addRoom 24 = .ok (.getfield 153, 3) := by decide +kernel
theorem dX2_addRoom_27 : decode cX2_addRoom 27 = .ok (.istore_n 2, 1) := by decide +kernel
theorem dX2_addRoom_28 : decode cX2_addRoom 28 = .ok (.aload_n 0, 1) := by decide +kernel
theorem dX2_addRoom_29 : decode cX2_addRoom 29 = .ok (.dup, 1) := by decide +kernel
theorem dX2_addRoom_30 : decode cX2_addRoom 30 = .ok (.getfield 153, 3) := by decide +kernel
theorem dX2_addRoom_33 : decode cX2_addRoom 33 = .ok (.iconst 1, 1) := by decide +kernel
theorem dX2_addRoom_34 : decode cX2_addRoom 34 = .ok (.iadd, 1) := by decide +kernel
theorem dX2_addRoom_35 : decode cX2_addRoom 35 = .ok (.putfield 153, 3) := by decide +kernel
theorem dX2_addRoom_38 : decode cX2_addRoom 38 = .ok (.aload_n 0, 1) := by decide +kernel
theorem dX2_addRoom_39 : decode cX2_addRoom 39 = .ok (.getfield 24, 3) := by decide +kernel
theorem dX2_addRoom_42 : decode cX2_addRoom 42 = .ok (.iload_n 2, 1) := by decide +kernel
theorem dX2_addRoom_43 : decode cX2_addRoom 43 = .ok (.iload_n 1, 1) := by decide +kernel
theorem dX2_addRoom_44 : decode cX2_addRoom 44 = .ok (.invokevirtual 74, 3) := by decide +kernel
theorem dX2_addRoom_47 : decode cX2_addRoom 47 = .ok (.iload_n 2, 1) := by decide +kernel
theorem dX2_addRoom_48 : decode cX2_addRoom 48 = .ok (.ireturn, 1) := by decide +kernel
set_option maxRecDepth 20000 in
theorem ggX2_reads_X2_requireAccount : GoodIn wsX2_reads wsX2_requireAccount := goodIn_ca (goodIn_r _ [6, 7, 8, 9, 67, 68, 69, 70, 71, 72, 73, 74, 75, 76, 77, 78, 79, 80, 81, 82] (by decide +kernel) (by decide +kernel)) (goodIn_sub (fun _ h => List.mem_cons_of_mem _ (List.mem_append_left _ (List.mem_append_right _ h))) (by decide +kernel))
set_option maxRecDepth 20000 in
theorem gX2_reads_X2_requireAccount : GoodIn wsX2_reads (wsV RX2 61 RX2 yX2_requireAccount wsX2_requireAccount) := goodIn_app (goodIn_of _ (by decide +kernel)) ggX2_reads_X2_requireAccount
set_option maxRecDepth 20000 in
theorem ggX2_reads_X2_requireRoom : GoodIn wsX2_reads wsX2_requireRoom := goodIn_ca (goodIn_r _ [13, 7, 8, 14, 67, 68, 69, 70, 71, 72, 73, 74, 75, 76, 77, 78, 79, 80, 81, 82] (by decide +kernel) (by decide +kernel)) (goodIn_sub (fun _ h => List.mem_cons_of_mem _ (List.mem_append_left _ (List.mem_append_right _ h))) (by decide +kernel))
set_option maxRecDepth 20000 in
theorem gX2_reads_X2_requireRoom : GoodIn wsX2_reads (wsV RX2 158 RX2 yX2_requireRoom wsX2_requireRoom) := goodIn_app (goodIn_of _ (by decide +kernel)) ggX2_reads_X2_requireRoom
set_option maxRecDepth 20000 in
theorem ggX2_reads_X1_at : GoodIn wsX2_reads wsX1_at := goodIn_ca (goodIn_r _ [19, 20, 21, 83, 84] (by decide +kernel) (by decide +kernel)) (goodIn_sub (fun _ h => List.mem_cons_of_mem _ (List.mem_append_right _ h)) (by decide +kernel))
set_option maxRecDepth 20000 in
theorem gX2_reads_X1_at : GoodIn wsX2_reads (wsV RX2 70 RX1 yX1_at wsX1_at) := goodIn_app (goodIn_of _ (by decide +kernel)) ggX2_reads_X1_at
set_option maxRecDepth 20000 in
theorem ggX2_reads_X2_isActive : GoodIn wsX2_reads wsX2_isActive := goodIn_r _ [25, 26, 27, 28, 5, 29, 67, 68, 69, 70, 71, 72, 73, 74, 75, 76, 77, 78, 79, 80, 81, 82] (by decide +kernel) (by decide +kernel)
set_option maxRecDepth 20000 in
theorem gX2_reads_X2_isActive : GoodIn wsX2_reads (wsV RX2 88 RX2 yX2_isActive wsX2_isActive) := goodIn_app (goodIn_of _ (by decide +kernel)) ggX2_reads_X2_isActive
set_option maxRecDepth 20000 in
theorem ggX2_reads_X2_groupsOf : GoodIn wsX2_reads wsX2_groupsOf := goodIn_ca (goodIn_r _ [33, 34, 35, 36, 37, 5, 38, 39, 40, 41, 42, 43, 44, 45, 46, 47, 48, 49, 50, 51, 52, 53, 27, 28, 29, 54, 55, 56, 57, 58, 59, 60, 61, 62, 67, 68, 69, 70, 71, 72, 73, 74, 75, 76, 77, 78, 79, 80, 81, 82, 85, 86] (by decide +kernel) (by decide +kernel)) (goodIn_sub (fun _ h => List.mem_cons_of_mem _ (List.mem_append_right _ h)) (by decide +kernel))
set_option maxRecDepth 20000 in
theorem gX2_reads_X2_groupsOf : GoodIn wsX2_reads (wsV RX2 120 RX2 yX2_groupsOf wsX2_groupsOf) := goodIn_app (goodIn_of _ (by decide +kernel)) ggX2_reads_X2_groupsOf
set_option maxRecDepth 20000 in
theorem ggX2_reads_X2_contains : GoodIn wsX2_reads wsX2_contains := goodIn_r _ [29] (by decide +kernel) (by decide +kernel)
set_option maxRecDepth 20000 in
theorem gX2_reads_X2_contains : GoodIn wsX2_reads (va_wsS RX2 106 yX2_contains wsX2_contains) := goodIn_app (goodIn_of _ (by decide +kernel)) ggX2_reads_X2_contains
set_option maxRecDepth 20000 in
theorem ggX2_reads_X2_activeIn : GoodIn wsX2_reads wsX2_activeIn := goodIn_ca (goodIn_r _ [66, 9, 22, 23, 24, 5, 25, 26, 27, 28, 29, 30, 31, 32, 33, 34, 35, 36, 37, 38, 39, 40, 41, 42, 43, 44, 45, 46, 47, 48, 49, 50, 51, 52, 53, 54, 55, 56, 57, 58, 59, 60, 61, 62, 67, 68, 69, 70, 71, 72, 73, 74, 75, 76, 77, 78, 79, 80, 81, 82, 85, 86] (by decide +kernel) (by decide +kernel)) (goodIn_sub (fun _ h => List.mem_cons_of_mem _ (List.mem_append_right _ h)) (by decide +kernel))
set_option maxRecDepth 20000 in
theorem gX2_reads_X2_activeIn : GoodIn wsX2_reads (wsV RX2 161 RX2 yX2_activeIn wsX2_activeIn) := goodIn_app (goodIn_of _ (by decide +kernel)) ggX2_reads_X2_activeIn
theorem dX2_reads_0 : decode cX2_reads 0 = .ok (.aload_n 0, 1) := by decide +kernel
theorem dX2_reads_1 : decode cX2_reads 1 = .ok (.iload_n 1, 1) := by decide +kernel
theorem dX2_reads_2 : decode cX2_reads 2 = .ok (.invokevirtual 61, 3) := by decide +kernel
theorem dX2_reads_5 : decode cX2_reads 5 = .ok (.aload_n 0, 1) := by decide +kernel
theorem dX2_reads_6 : decode cX2_reads 6 = .ok (.iload_n 2, 1) := by decide +kernel
theorem dX2_reads_7 : decode cX2_reads 7 = .ok (.invokevirtual 158, 3) := by decide +kernel
theorem dX2_reads_10 : decode cX2_reads 10 = .ok (.aload_n 0, 1) := by decide +kernel
theorem dX2_reads_11 : decode cX2_reads 11 = .ok (.getfield 24, 3) := by decide +kernel
theorem dX2_reads_14 : decode cX2_reads 14 = .ok (.iload_n 2, 1) := by decide +kernel
theorem dX2_reads_15 : decode cX2_reads 15 = .ok (.invokevirtual 70, 3) := by decide +kernel
theorem dX2_reads_18 : decode cX2_reads 18 = .ok (.istore_n 3, 1) := by decide +kernel
theorem dX2_reads_19 : decode cX2_reads 19 = .ok (.aload_n 0, 1) := by decide +kernel
theorem dX2_reads_20 : decode cX2_reads 20 = .ok (.iload_n 1, 1) := by decide +kernel
theorem dX2_reads_21 : decode cX2_reads 21 = .ok (.invokevirtual 88, 3) := by decide +kernel
theorem dX2_reads_24 : decode cX2_reads 24 = .ok (.ifCond .eq 17, 3) := by decide +kernel
theorem dX2_reads_27 : decode cX2_reads 27 = .ok (.aload_n 0, 1) := by decide +kernel
theorem dX2_reads_28 : decode cX2_reads 28 = .ok (.iload_n 1, 1) := by decide +kernel
theorem dX2_reads_29 : decode cX2_reads 29 = .ok (.invokevirtual 120, 3) := by decide +kernel
theorem dX2_reads_32 : decode cX2_reads 32 = .ok (.iload_n 3, 1) := by decide +kernel
theorem dX2_reads_33 : decode cX2_reads 33 = .ok (.invokestatic 106, 3) := by decide +kernel
theorem dX2_reads_36 : decode cX2_reads 36 = .ok (.ifCond .eq 5, 3) := by decide +kernel
theorem dX2_reads_39 : decode cX2_reads 39 = .ok (.iconst 1, 1) := by decide +kernel
theorem dX2_reads_40 : decode cX2_reads 40 = .ok (.ireturn, 1) := by decide +kernel
theorem dX2_reads_41 : decode cX2_reads 41 = .ok (.iload_n 1, 1) := by decide +kernel
theorem dX2_reads_42 : decode cX2_reads 42 = .ok (.ifCond .ne 15, 3) := by decide +kernel
theorem dX2_reads_45 : decode cX2_reads 45 = .ok (.aload_n 0, 1) := by decide +kernel
theorem dX2_reads_46 : decode cX2_reads 46 = .ok (.iload_n 3, 1) := by decide +kernel
theorem dX2_reads_47 : decode cX2_reads 47 = .ok (.invokevirtual 161, 3) := by decide +kernel
theorem dX2_reads_50 : decode cX2_reads 50 = .ok (.ifCond .ne 7, 3) := by decide +kernel
theorem dX2_reads_53 : decode cX2_reads 53 = .ok (.iconst 1, 1) := by decide +kernel
theorem dX2_reads_54 : decode cX2_reads 54 = .ok (.goto 4, 3) := by decide +kernel
theorem dX2_reads_57 : decode cX2_reads 57 = .ok (.iconst 0, 1) := by decide +kernel
theorem dX2_reads_58 : decode cX2_reads 58 = .ok (.ireturn, 1) := by decide +kernel
set_option maxRecDepth 20000 in
theorem ggX2_readers_X2_requireRoom : GoodIn wsX2_readers wsX2_requireRoom := goodIn_ca (goodIn_r _ [6, 7, 8, 9, 63, 64, 65, 66, 67, 68, 69, 70, 71, 72, 73, 74, 75, 76, 77, 78] (by decide +kernel) (by decide +kernel)) (goodIn_sub (fun _ h => List.mem_cons_of_mem _ (List.mem_append_left _ (List.mem_append_right _ h))) (by decide +kernel))
set_option maxRecDepth 20000 in
theorem gX2_readers_X2_requireRoom : GoodIn wsX2_readers (wsV RX2 158 RX2 yX2_requireRoom wsX2_requireRoom) := goodIn_app (goodIn_of _ (by decide +kernel)) ggX2_readers_X2_requireRoom
set_option maxRecDepth 20000 in
theorem ggX2_readers_X1_at : GoodIn wsX2_readers wsX1_at := goodIn_ca (goodIn_r _ [14, 15, 16, 79, 80] (by decide +kernel) (by decide +kernel)) (goodIn_sub (fun _ h => List.mem_cons_of_mem _ (List.mem_append_right _ h)) (by decide +kernel))
set_option maxRecDepth 20000 in
theorem gX2_readers_X1_at : GoodIn wsX2_readers (wsV RX2 70 RX1 yX1_at wsX1_at) := goodIn_app (goodIn_of _ (by decide +kernel)) ggX2_readers_X1_at
set_option maxRecDepth 20000 in
theorem ggX2_readers_X2_activeIn : GoodIn wsX2_readers wsX2_activeIn := goodIn_ca (goodIn_r _ [20, 21, 22, 23, 24, 5, 25, 26, 27, 28, 29, 30, 31, 32, 33, 34, 35, 36, 37, 38, 39, 40, 41, 42, 43, 44, 45, 46, 47, 48, 49, 50, 51, 52, 53, 54, 55, 56, 57, 58, 59, 60, 61, 62, 63, 64, 65, 66, 67, 68, 69, 70, 71, 72, 73, 74, 75, 76, 77, 78, 81, 82] (by decide +kernel) (by decide +kernel)) (goodIn_sub (fun _ h => List.mem_cons_of_mem _ (List.mem_append_right _ h)) (by decide +kernel))
set_option maxRecDepth 20000 in
theorem gX2_readers_X2_activeIn : GoodIn wsX2_readers (wsV RX2 161 RX2 yX2_activeIn wsX2_activeIn) := goodIn_app (goodIn_of _ (by decide +kernel)) ggX2_readers_X2_activeIn
theorem dX2_readers_0 : decode cX2_readers 0 = .ok (.aload_n 0, 1) := by decide +kernel
theorem dX2_readers_1 : decode cX2_readers 1 = .ok (.iload_n 1, 1) := by decide +kernel
theorem dX2_readers_2 : decode cX2_readers 2 = .ok (.invokevirtual 158, 3) := by decide +kernel
theorem dX2_readers_5 : decode cX2_readers 5 = .ok (.aload_n 0, 1) := by decide +kernel
theorem dX2_readers_6 : decode cX2_readers 6 = .ok (.aload_n 0, 1) := by decide +kernel
theorem dX2_readers_7 : decode cX2_readers 7 = .ok (.getfield 24, 3) := by decide +kernel
theorem dX2_readers_10 : decode cX2_readers 10 = .ok (.iload_n 1, 1) := by decide +kernel
theorem dX2_readers_11 : decode cX2_readers 11 = .ok (.invokevirtual 70, 3) := by decide +kernel
theorem dX2_readers_14 : decode cX2_readers 14 = .ok (.invokevirtual 161, 3) := by decide +kernel
theorem dX2_readers_17 : decode cX2_readers 17 = .ok (.istore_n 2, 1) := by decide +kernel
theorem dX2_readers_18 : decode cX2_readers 18 = .ok (.iload_n 2, 1) := by decide +kernel
theorem dX2_readers_19 : decode cX2_readers 19 = .ok (.ifCond .ne 7, 3) := by decide +kernel
theorem dX2_readers_22 : decode cX2_readers 22 = .ok (.iconst 1, 1) := by decide +kernel
theorem dX2_readers_23 : decode cX2_readers 23 = .ok (.goto 4, 3) := by decide +kernel
theorem dX2_readers_26 : decode cX2_readers 26 = .ok (.iload_n 2, 1) := by decide +kernel
theorem dX2_readers_27 : decode cX2_readers 27 = .ok (.ireturn, 1) := by decide +kernel
set_option maxRecDepth 20000 in
theorem ggX2_keeper_X2_requireFolder : GoodIn wsX2_keeper wsX2_requireFolder := goodIn_ca (goodIn_r _ [5, 6, 7, 8, 48, 49, 50, 51, 52, 53, 54, 55, 56, 57, 58, 59, 60, 61, 62, 63] (by decide +kernel) (by decide +kernel)) (goodIn_sub (fun _ h => List.mem_cons_of_mem _ (List.mem_append_left _ (List.mem_append_right _ h))) (by decide +kernel))
set_option maxRecDepth 20000 in
theorem gX2_keeper_X2_requireFolder : GoodIn wsX2_keeper (wsV RX2 123 RX2 yX2_requireFolder wsX2_requireFolder) := goodIn_app (goodIn_of _ (by decide +kernel)) ggX2_keeper_X2_requireFolder
set_option maxRecDepth 20000 in
theorem ggX2_keeper_X2_keeperAfterLeaving : GoodIn wsX2_keeper wsX2_keeperAfterLeaving := goodIn_ca (goodIn_r _ [12, 13, 14, 15, 16, 17, 18, 19, 20, 21, 22, 23, 4, 24, 25, 26, 27, 28, 29, 30, 31, 32, 33, 34, 35, 36, 37, 38, 39, 40, 41, 42, 43, 44, 45, 46, 47, 48, 49, 50, 51, 52, 53, 54, 55, 56, 57, 58, 59, 60, 61, 62, 63, 64, 65] (by decide +kernel) (by decide +kernel)) (goodIn_sub (fun _ h => List.mem_cons_of_mem _ (List.mem_append_right _ h)) (by decide +kernel))
set_option maxRecDepth 20000 in
theorem gX2_keeper_X2_keeperAfterLeaving : GoodIn wsX2_keeper (wsV RX2 164 RX2 yX2_keeperAfterLeaving wsX2_keeperAfterLeaving) := goodIn_app (goodIn_of _ (by decide +kernel)) ggX2_keeper_X2_keeperAfterLeaving
theorem dX2_keeper_0 : decode cX2_keeper 0 = .ok (.aload_n 0, 1) := by decide +kernel
theorem dX2_keeper_1 : decode cX2_keeper 1 = .ok (.iload_n 1, 1) := by decide +kernel
theorem dX2_keeper_2 : decode cX2_keeper 2 = .ok (.invokevirtual 123, 3) := by decide +kernel
theorem dX2_keeper_5 : decode cX2_keeper 5 = .ok (.aload_n 0, 1) := by decide +kernel
theorem dX2_keeper_6 : decode cX2_keeper 6 = .ok (.iload_n 1, 1) := by decide +kernel
theorem dX2_keeper_7 : decode cX2_keeper 7 = .ok (.invokevirtual 164, 3) := by decide +kernel
theorem dX2_keeper_10 : decode cX2_keeper 10 = .ok (.ireturn, 1) := by decide +kernel
set_option maxRecDepth 20000 in
theorem ggX2_leave_X2_requireAccount : GoodIn wsX2_leave wsX2_requireAccount := goodIn_ca (goodIn_r _ [10, 11, 12, 13, 64, 65, 66, 67, 68, 69, 70, 71, 72, 73, 74, 75, 76, 77, 78, 79] (by decide +kernel) (by decide +kernel)) (goodIn_sub (fun _ h => List.mem_cons_of_mem _ (List.mem_append_left _ (List.mem_append_right _ h))) (by decide +kernel))
set_option maxRecDepth 20000 in
theorem gX2_leave_X2_requireAccount : GoodIn wsX2_leave (wsV RX2 61 RX2 yX2_requireAccount wsX2_requireAccount) := goodIn_app (goodIn_of _ (by decide +kernel)) ggX2_leave_X2_requireAccount
set_option maxRecDepth 20000 in
theorem ggX2_leave_X2_isActive : GoodIn wsX2_leave wsX2_isActive := goodIn_r _ [17, 5, 18, 19, 9, 20, 64, 65, 66, 67, 68, 69, 70, 71, 72, 73, 74, 75, 76, 77, 78, 79] (by decide +kernel) (by decide +kernel)
set_option maxRecDepth 20000 in
theorem gX2_leave_X2_isActive : GoodIn wsX2_leave (wsV RX2 88 RX2 yX2_isActive wsX2_isActive) := goodIn_app (goodIn_of _ (by decide +kernel)) ggX2_leave_X2_isActive
set_option maxRecDepth 20000 in
theorem ggX2_leave_X2_without : GoodIn wsX2_leave wsX2_without := goodIn_r _ [23] (by decide +kernel) (by decide +kernel)
set_option maxRecDepth 20000 in
theorem gX2_leave_X2_without : GoodIn wsX2_leave (va_wsS RX2 143 yX2_without wsX2_without) := goodIn_app (goodIn_of _ (by decide +kernel)) ggX2_leave_X2_without
set_option maxRecDepth 20000 in
theorem ggX2_leave_X2_handOverFoldersOf : GoodIn wsX2_leave wsX2_handOverFoldersOf := goodIn_ca (goodIn_r _ [27, 28, 29, 30, 31, 32, 9, 33, 34, 35, 36, 37, 38, 39, 40, 41, 42, 43, 44, 45, 18, 19, 20, 46, 47, 48, 49, 50, 51, 52, 53, 54, 14, 15, 16, 17, 5, 55, 56, 57, 58, 59, 60, 61, 62, 63, 64, 65, 66, 67, 68, 69, 70, 71, 72, 73, 74, 75, 76, 77, 78, 79, 80, 81] (by decide +kernel) (by decide +kernel)) (goodIn_sub (fun _ h => List.mem_cons_of_mem _ (List.mem_append_right _ h)) (by decide +kernel))
set_option maxRecDepth 20000 in
theorem gX2_leave_X2_handOverFoldersOf : GoodIn wsX2_leave (wsV RX2 169 RX2 yX2_handOverFoldersOf wsX2_handOverFoldersOf) := goodIn_app (goodIn_of _ (by decide +kernel)) ggX2_leave_X2_handOverFoldersOf
theorem dX2_leave_0 : decode cX2_leave 0 = .ok (.aload_n 0, 1) := by decide +kernel
theorem dX2_leave_1 : decode cX2_leave 1 = .ok (.iload_n 1, 1) := by decide +kernel
theorem dX2_leave_2 : decode cX2_leave 2 = .ok (.invokevirtual 61, 3) := by decide +kernel
theorem dX2_leave_5 : decode cX2_leave 5 = .ok (.iload_n 1, 1) := by decide +kernel
theorem dX2_leave_6 : decode cX2_leave 6 = .ok (.ifCond .ne 13, 3) := by decide +kernel
theorem dX2_leave_9 : decode cX2_leave 9 = .ok (.new 92, 3) := by decide +kernel
theorem dX2_leave_12 : decode cX2_leave 12 = .ok (.dup, 1) := by decide +kernel
theorem dX2_leave_13 : decode cX2_leave 13 = .ok (.ldc 167, 2) := by decide +kernel
theorem dX2_leave_15 : decode cX2_leave 15 = .ok (.invokespecial 96, 3) := by decide +kernel
theorem dX2_leave_18 : decode cX2_leave 18 = .ok (.athrow, 1) := by decide +kernel
theorem dX2_leave_19 : decode cX2_leave 19 = .ok (.aload_n 0, 1) := by decide +kernel
theorem dX2_leave_20 : decode cX2_leave 20 = .ok (.iload_n 1, 1) := by decide +kernel
theorem dX2_leave_21 : decode cX2_leave 21 = .ok (.invokevirtual 88, 3) := by decide +kernel
theorem dX2_leave_24 : decode cX2_leave 24 = .ok (.ifCond .ne 13, 3) := by decide +kernel
theorem dX2_leave_27 : decode cX2_leave 27 = .ok (.new 50, 3) := by decide +kernel
theorem dX2_leave_30 : decode cX2_leave 30 = .ok (.dup, 1) := by decide +kernel
theorem dX2_leave_31 : decode cX2_leave 31 = .ok (.ldc 94, 2) := by decide +kernel
theorem dX2_leave_33 : decode cX2_leave 33 = .ok (.invokespecial 54, 3) := by decide +kernel
theorem dX2_leave_36 : decode cX2_leave 36 = .ok (.athrow, 1) := by decide +kernel
theorem dX2_leave_37 : decode cX2_leave 37 = .ok (.aload_n 0, 1) := by decide +kernel
theorem dX2_leave_38 : decode cX2_leave 38 = .ok (.aload_n 0, 1) := by decide +kernel
theorem dX2_leave_39 : decode cX2_leave 39 = .ok (.getfield 47, 3) := by decide +kernel
theorem dX2_leave_42 : decode cX2_leave 42 = .ok (.iload_n 1, 1) := by decide +kernel
theorem dX2_leave_43 : decode cX2_leave 43 = .ok (.invokestatic 143, 3) := by decide +kernel
theorem dX2_leave_46 : decode cX2_leave 46 = .ok (.putfield 47, 3) := by decide +kernel
theorem dX2_leave_49 : decode cX2_leave 49 = .ok (.aload_n 0, 1) := by decide +kernel
theorem dX2_leave_50 : decode cX2_leave 50 = .ok (.iload_n 1, 1) := by decide +kernel
theorem dX2_leave_51 : decode cX2_leave 51 = .ok (.invokevirtual 169, 3) := by decide +kernel
theorem dX2_leave_54 : decode cX2_leave 54 = .ok (.ireturn, 1) := by decide +kernel
set_option maxRecDepth 20000 in
theorem ggX2_hold_X2_requireFolder : GoodIn wsX2_hold wsX2_requireFolder := goodIn_ca (goodIn_r _ [6, 7, 8, 9, 33, 34, 35, 36, 37, 38, 39, 40, 41, 42, 43, 44, 45, 46, 47, 48] (by decide +kernel) (by decide +kernel)) (goodIn_sub (fun _ h => List.mem_cons_of_mem _ (List.mem_append_left _ (List.mem_append_right _ h))) (by decide +kernel))
set_option maxRecDepth 20000 in
theorem gX2_hold_X2_requireFolder : GoodIn wsX2_hold (wsV RX2 123 RX2 yX2_requireFolder wsX2_requireFolder) := goodIn_app (goodIn_of _ (by decide +kernel)) ggX2_hold_X2_requireFolder
set_option maxRecDepth 20000 in
theorem ggX2_hold_X2_requireNotHeld : GoodIn wsX2_hold wsX2_requireNotHeld := goodIn_ca (goodIn_r _ [13, 14, 15, 16, 17, 18, 5, 19, 1, 20, 21, 22, 33, 34, 35, 36, 37, 38, 39, 40, 41, 42, 43, 44, 45, 46, 47, 48] (by decide +kernel) (by decide +kernel)) (goodIn_sub (fun _ h => List.mem_cons_of_mem _ (List.mem_append_right _ h)) (by decide +kernel))
set_option maxRecDepth 20000 in
theorem gX2_hold_X2_requireNotHeld : GoodIn wsX2_hold (wsV RX2 134 RX2 yX2_requireNotHeld wsX2_requireNotHeld) := goodIn_app (goodIn_of _ (by decide +kernel)) ggX2_hold_X2_requireNotHeld
set_option maxRecDepth 20000 in
theorem ggX2_hold_X2_with : GoodIn wsX2_hold wsX2_with := goodIn_r _ [25] (by decide +kernel) (by decide +kernel)
set_option maxRecDepth 20000 in
theorem gX2_hold_X2_with : GoodIn wsX2_hold (va_wsS RX2 57 yX2_with wsX2_with) := goodIn_app (goodIn_of _ (by decide +kernel)) ggX2_hold_X2_with
set_option maxRecDepth 20000 in
theorem ggX2_hold_J6_bitCount_0f7a4 : GoodIn wsX2_hold wsJ6_bitCount_0f7a4 := goodIn_r _ [29, 30, 31, 32] (by decide +kernel) (by decide +kernel)
set_option maxRecDepth 20000 in
theorem gX2_hold_J6_bitCount_0f7a4 : GoodIn wsX2_hold (va_wsS RX2 175 yJ6_bitCount_0f7a4 wsJ6_bitCount_0f7a4) := goodIn_app (goodIn_of _ (by decide +kernel)) ggX2_hold_J6_bitCount_0f7a4
theorem dX2_hold_0 : decode cX2_hold 0 = .ok (.aload_n 0, 1) := by decide +kernel
theorem dX2_hold_1 : decode cX2_hold 1 = .ok (.iload_n 1, 1) := by decide +kernel
theorem dX2_hold_2 : decode cX2_hold 2 = .ok (.invokevirtual 123, 3) := by decide +kernel
theorem dX2_hold_5 : decode cX2_hold 5 = .ok (.aload_n 0, 1) := by decide +kernel
theorem dX2_hold_6 : decode cX2_hold 6 = .ok (.iload_n 1, 1) := by decide +kernel
theorem dX2_hold_7 : decode cX2_hold 7 = .ok (.invokevirtual 134, 3) := by decide +kernel
theorem dX2_hold_10 : decode cX2_hold 10 = .ok (.aload_n 0, 1) := by decide +kernel
theorem dX2_hold_11 : decode cX2_hold 11 = .ok (.aload_n 0, 1) := by decide +kernel
theorem dX2_hold_12 : decode cX2_hold 12 = .ok (.getfield 172, 3) := by decide +kernel
theorem dX2_hold_15 : decode cX2_hold 15 = .ok (.iload_n 1, 1) := by decide +kernel
theorem dX2_hold_16 : decode cX2_hold 16 = .ok (.invokestatic 57, 3) := by decide +kernel
theorem dX2_hold_19 : decode cX2_hold 19 = .ok (.putfield 172, 3) := by decide +kernel
theorem dX2_hold_22 : decode cX2_hold 22 = .ok (.aload_n 0, 1) := by decide +kernel
theorem dX2_hold_23 : decode cX2_hold 23 = .ok (.getfield 172, 3) := by decide +kernel
theorem dX2_hold_26 : decode cX2_hold 26 = .ok (.invokestatic 175, 3) := by decide +kernel
theorem dX2_hold_29 : decode cX2_hold 29 = .ok (.ireturn, 1) := by decide +kernel
set_option maxRecDepth 20000 in
theorem ggX2_release_X2_requireFolder : GoodIn wsX2_release wsX2_requireFolder := goodIn_ca (goodIn_r _ [9, 10, 11, 12, 57, 58, 59, 60, 61, 62, 63, 64, 65, 66, 67, 68, 69, 70, 71, 72] (by decide +kernel) (by decide +kernel)) (goodIn_sub (fun _ h => List.mem_cons_of_mem _ (List.mem_append_left _ (List.mem_append_right _ h))) (by decide +kernel))
set_option maxRecDepth 20000 in
theorem gX2_release_X2_requireFolder : GoodIn wsX2_release (wsV RX2 123 RX2 yX2_requireFolder wsX2_requireFolder) := goodIn_app (goodIn_of _ (by decide +kernel)) ggX2_release_X2_requireFolder
set_option maxRecDepth 20000 in
theorem ggX2_release_X2_isHeld : GoodIn wsX2_release wsX2_isHeld := goodIn_r _ [16, 3, 17, 18, 8, 19, 57, 58, 59, 60, 61, 62, 63, 64, 65, 66, 67, 68, 69, 70, 71, 72] (by decide +kernel) (by decide +kernel)
set_option maxRecDepth 20000 in
theorem gX2_release_X2_isHeld : GoodIn wsX2_release (wsV RX2 180 RX2 yX2_isHeld wsX2_isHeld) := goodIn_app (goodIn_of _ (by decide +kernel)) ggX2_release_X2_isHeld
set_option maxRecDepth 20000 in
theorem ggX2_release_X2_without : GoodIn wsX2_release wsX2_without := goodIn_r _ [22] (by decide +kernel) (by decide +kernel)
set_option maxRecDepth 20000 in
theorem gX2_release_X2_without : GoodIn wsX2_release (va_wsS RX2 143 yX2_without wsX2_without) := goodIn_app (goodIn_of _ (by decide +kernel)) ggX2_release_X2_without
set_option maxRecDepth 20000 in
theorem ggX2_release_X1_at : GoodIn wsX2_release wsX1_at := goodIn_ca (goodIn_r _ [27, 28, 29, 73, 74] (by decide +kernel) (by decide +kernel)) (goodIn_sub (fun _ h => List.mem_cons_of_mem _ (List.mem_append_right _ h)) (by decide +kernel))
set_option maxRecDepth 20000 in
theorem gX2_release_X1_at : GoodIn wsX2_release (wsV RX2 70 RX1 yX1_at wsX1_at) := goodIn_app (goodIn_of _ (by decide +kernel)) ggX2_release_X1_at
set_option maxRecDepth 20000 in
theorem ggX2_release_X2_isActive : GoodIn wsX2_release wsX2_isActive := goodIn_r _ [33, 34, 17, 18, 8, 19, 57, 58, 59, 60, 61, 62, 63, 64, 65, 66, 67, 68, 69, 70, 71, 72] (by decide +kernel) (by decide +kernel)
set_option maxRecDepth 20000 in
theorem gX2_release_X2_isActive : GoodIn wsX2_release (wsV RX2 88 RX2 yX2_isActive wsX2_isActive) := goodIn_app (goodIn_of _ (by decide +kernel)) ggX2_release_X2_isActive
set_option maxRecDepth 20000 in
theorem ggX2_release_X2_keeperAfterLeaving : GoodIn wsX2_release wsX2_keeperAfterLeaving := goodIn_ca (goodIn_r _ [38, 4, 23, 24, 25, 26, 27, 28, 29, 39, 40, 41, 8, 42, 43, 30, 31, 32, 33, 34, 17, 18, 19, 44, 45, 46, 47, 48, 49, 50, 51, 52, 13, 14, 15, 16, 3, 57, 58, 59, 60, 61, 62, 63, 64, 65, 66, 67, 68, 69, 70, 71, 72, 73, 74] (by decide +kernel) (by decide +kernel)) (goodIn_sub (fun _ h => List.mem_cons_of_mem _ (List.mem_append_right _ h)) (by decide +kernel))
set_option maxRecDepth 20000 in
theorem gX2_release_X2_keeperAfterLeaving : GoodIn wsX2_release (wsV RX2 164 RX2 yX2_keeperAfterLeaving wsX2_keeperAfterLeaving) := goodIn_app (goodIn_of _ (by decide +kernel)) ggX2_release_X2_keeperAfterLeaving
set_option maxRecDepth 20000 in
theorem ggX2_release_X1_put : GoodIn wsX2_release wsX1_put := goodIn_ca (goodIn_r _ [56, 28, 73, 74] (by decide +kernel) (by decide +kernel)) (goodIn_sub (fun _ h => List.mem_cons_of_mem _ (List.mem_append_right _ h)) (by decide +kernel))
set_option maxRecDepth 20000 in
theorem gX2_release_X1_put : GoodIn wsX2_release (wsV RX2 74 RX1 yX1_put wsX1_put) := goodIn_app (goodIn_of _ (by decide +kernel)) ggX2_release_X1_put
theorem dX2_release_0 : decode cX2_release 0 = .ok (.aload_n 0, 1) := by decide +kernel
theorem dX2_release_1 : decode cX2_release 1 = .ok (.iload_n 1, 1) := by decide +kernel
theorem dX2_release_2 : decode cX2_release 2 = .ok (.invokevirtual 123, 3) := by decide +kernel
theorem dX2_release_5 : decode cX2_release 5 = .ok (.aload_n 0, 1) := by decide +kernel
theorem dX2_release_6 : decode cX2_release 6 = .ok (.iload_n 1, 1) := by decide +kernel
theorem dX2_release_7 : decode cX2_release 7 = .ok (.invokevirtual 180, 3) := by decide +kernel
theorem dX2_release_10 : decode cX2_release 10 = .ok (.ifCond .ne 13, 3) := by decide +kernel
theorem dX2_release_13 : decode cX2_release 13 = .ok (.new 50, 3) := by decide +kernel
theorem dX2_release_16 : decode cX2_release 16 = .ok (.dup, 1) := by decide +kernel
theorem dX2_release_17 : decode cX2_release 17 = .ok (.ldc 183, 2) := by decide +kernel
theorem dX2_release_19 : decode cX2_release 19 = .ok (.invokespecial 54, 3) := by decide +kernel
theorem dX2_release_22 : decode cX2_release 22 = .ok (.athrow, 1) := by decide +kernel
theorem dX2_release_23 : decode cX2_release 23 = .ok (.aload_n 0, 1) := by decide +kernel
theorem dX2_release_24 : decode cX2_release 24 = .ok (.aload_n 0, 1) := by decide +kernel
theorem dX2_release_25 : decode cX2_release 25 = .ok (.getfield 172, 3) := by decide +kernel
theorem dX2_release_28 : decode cX2_release 28 = .ok (.iload_n 1, 1) := by decide +kernel
theorem dX2_release_29 : decode cX2_release 29 = .ok (.invokestatic 143, 3) := by decide +kernel
theorem dX2_release_32 : decode cX2_release 32 = .ok (.putfield 172, 3) := by decide +kernel
theorem dX2_release_35 : decode cX2_release 35 = .ok (.aload_n 0, 1) := by decide +kernel
theorem dX2_release_36 : decode cX2_release 36 = .ok (.aload_n 0, 1) := by decide +kernel
theorem dX2_release_37 : decode cX2_release 37 = .ok (.getfield 18, 3) := by decide +kernel
theorem dX2_release_40 : decode cX2_release 40 = .ok (.iload_n 1, 1) := by decide +kernel
theorem dX2_release_41 : decode cX2_release 41 = .ok (.invokevirtual 70, 3) := by decide +kernel
theorem dX2_release_44 : decode cX2_release 44 = .ok (.invokevirtual 88, 3) := by decide +kernel
theorem dX2_release_47 : decode cX2_release 47 = .ok (.ifCond .ne 16, 3) := by decide +kernel
theorem dX2_release_50 : decode cX2_release 50 = .ok (.aload_n 0, 1) := by decide +kernel
theorem dX2_release_51 : decode cX2_release 51 = .ok (.getfield 18, 3) := by decide +kernel
theorem dX2_release_54 : decode cX2_release 54 = .ok (.iload_n 1, 1) := by decide +kernel
theorem dX2_release_55 : decode cX2_release 55 = .ok (.aload_n 0, 1) := by decide +kernel
theorem dX2_release_56 : decode cX2_release 56 = .ok (.iload_n 1, 1) := by decide +kernel
theorem dX2_release_57 : decode cX2_release 57 = .ok (.invokevirtual 164, 3) := by decide +kernel
theorem dX2_release_60 : decode cX2_release 60 = .ok (.invokevirtual 74, 3) := by decide +kernel
theorem dX2_release_63 : decode cX2_release 63 = .ok (.aload_n 0, 1) := by decide +kernel
theorem dX2_release_64 : decode cX2_release 64 = .ok (.getfield 18, 3) := by decide +kernel
theorem dX2_release_67 : decode cX2_release 67 = .ok (.iload_n 1, 1) := by decide +kernel
theorem dX2_release_68 : decode cX2_release 68 = .ok (.invokevirtual 70, 3) := by decide +kernel
theorem dX2_release_71 : decode cX2_release 71 = .ok (.ireturn, 1) := by decide +kernel
set_option maxRecDepth 20000 in
theorem ggX2_pass_X0_clearUpTo : GoodIn wsX2_pass wsX0_clearUpTo := goodIn_ca (goodIn_r _ [10, 11, 28, 29] (by decide +kernel) (by decide +kernel)) (goodIn_sub (fun _ h => List.mem_cons_of_mem _ (List.mem_append_right _ h)) (by decide +kernel))
set_option maxRecDepth 20000 in
theorem gX2_pass_X0_clearUpTo : GoodIn wsX2_pass (wsV RX2 190 RX0 yX0_clearUpTo wsX0_clearUpTo) := goodIn_app (goodIn_of _ (by decide +kernel)) ggX2_pass_X0_clearUpTo
theorem dX2_pass_0 : decode cX2_pass 0 = .ok (.iload_n 1, 1) := by decide +kernel
theorem dX2_pass_1 : decode cX2_pass 1 = .ok (.iconst 1, 1) := by decide +kernel
theorem dX2_pass_2 : decode cX2_pass 2 = .ok (.if_icmp .lt 21, 3) := by decide +kernel
theorem dX2_pass_5 : decode cX2_pass 5 = .ok (.iload_n 1, 1) := by decide +kernel
theorem dX2_pass_6 : decode cX2_pass 6 = .ok (.bipush 99, 2) := by decide +kernel
theorem dX2_pass_8 : decode cX2_pass 8 = .ok (.if_icmp .gt 15, 3) := by decide +kernel
theorem dX2_pass_11 : decode cX2_pass 11 = .ok (.aload_n 0, 1) := by decide +kernel
theorem dX2_pass_12 : decode cX2_pass 12 = .ok (.getfield 185, 3) := by decide +kernel
theorem dX2_pass_15 : decode cX2_pass 15 = .ok (.iload_n 1, 1) := by decide +kernel
theorem dX2_pass_16 : decode cX2_pass 16 = .ok (.iadd, 1) := by decide +kernel
theorem dX2_pass_17 : decode cX2_pass 17 = .ok (.sipush 999, 3) := by decide +kernel
theorem dX2_pass_20 : decode cX2_pass 20 = .ok (.if_icmp .le 13, 3) := by decide +kernel
theorem dX2_pass_23 : decode cX2_pass 23 = .ok (.new 65, 3) := by decide +kernel
theorem dX2_pass_26 : decode cX2_pass 26 = .ok (.dup, 1) := by decide +kernel
theorem dX2_pass_27 : decode cX2_pass 27 = .ok (.ldc 188, 2) := by decide +kernel
theorem dX2_pass_29 : decode cX2_pass 29 = .ok (.invokespecial 69, 3) := by decide +kernel
theorem dX2_pass_32 : decode cX2_pass 32 = .ok (.athrow, 1) := by decide +kernel
theorem dX2_pass_33 : decode cX2_pass 33 = .ok (.aload_n 0, 1) := by decide +kernel
theorem dX2_pass_34 : decode cX2_pass 34 = .ok (.dup, 1) := by decide +kernel
theorem dX2_pass_35 : decode cX2_pass 35 = .ok (.getfield 185, 3) := by decide +kernel
theorem dX2_pass_38 : decode cX2_pass 38 = .ok (.iload_n 1, 1) := by decide +kernel
theorem dX2_pass_39 : decode cX2_pass 39 = .ok (.iadd, 1) := by decide +kernel
theorem dX2_pass_40 : decode cX2_pass 40 = .ok (.putfield 185, 3) := by decide +kernel
theorem dX2_pass_43 : decode cX2_pass 43 = .ok (.aload_n 0, 1) := by decide +kernel
theorem dX2_pass_44 : decode cX2_pass 44 = .ok (.getfield 30, 3) := by decide +kernel
theorem dX2_pass_47 : decode cX2_pass 47 = .ok (.aload_n 0, 1) := by decide +kernel
theorem dX2_pass_48 : decode cX2_pass 48 = .ok (.getfield 185, 3) := by decide +kernel
theorem dX2_pass_51 : decode cX2_pass 51 = .ok (.invokevirtual 190, 3) := by decide +kernel
theorem dX2_pass_54 : decode cX2_pass 54 = .ok (.aload_n 0, 1) := by decide +kernel
theorem dX2_pass_55 : decode cX2_pass 55 = .ok (.getfield 34, 3) := by decide +kernel
theorem dX2_pass_58 : decode cX2_pass 58 = .ok (.aload_n 0, 1) := by decide +kernel
theorem dX2_pass_59 : decode cX2_pass 59 = .ok (.getfield 185, 3) := by decide +kernel
theorem dX2_pass_62 : decode cX2_pass 62 = .ok (.invokevirtual 190, 3) := by decide +kernel
theorem dX2_pass_65 : decode cX2_pass 65 = .ok (.iadd, 1) := by decide +kernel
theorem dX2_pass_66 : decode cX2_pass 66 = .ok (.ireturn, 1) := by decide +kernel
theorem dX2_day_0 : decode cX2_day 0 = .ok (.aload_n 0, 1) := by decide +kernel
theorem dX2_day_1 : decode cX2_day 1 = .ok (.getfield 185, 3) := by decide +kernel
theorem dX2_day_4 : decode cX2_day 4 = .ok (.ireturn, 1) := by decide +kernel
set_option maxRecDepth 20000 in
theorem ggX2_active_J6_bitCount_0f7a4 : GoodIn wsX2_active wsJ6_bitCount_0f7a4 := goodIn_r _ [5, 6, 7, 8] (by decide +kernel) (by decide +kernel)
set_option maxRecDepth 20000 in
theorem gX2_active_J6_bitCount_0f7a4 : GoodIn wsX2_active (va_wsS RX2 175 yJ6_bitCount_0f7a4 wsJ6_bitCount_0f7a4) := goodIn_app (goodIn_of _ (by decide +kernel)) ggX2_active_J6_bitCount_0f7a4
theorem dX2_active_0 : decode cX2_active 0 = .ok (.aload_n 0, 1) := by decide +kernel
theorem dX2_active_1 : decode cX2_active 1 = .ok (.getfield 47, 3) := by decide +kernel
theorem dX2_active_4 : decode cX2_active 4 = .ok (.invokestatic 175, 3) := by decide +kernel
theorem dX2_active_7 : decode cX2_active 7 = .ok (.ireturn, 1) := by decide +kernel
set_option maxRecDepth 20000 in
theorem ggX2_openShare_J6_bitCount_0f7a4 : GoodIn wsX2_openShare wsJ6_bitCount_0f7a4 := goodIn_r _ [8, 9, 10, 11] (by decide +kernel) (by decide +kernel)
set_option maxRecDepth 20000 in
theorem gX2_openShare_J6_bitCount_0f7a4 : GoodIn wsX2_openShare (va_wsS RX2 175 yJ6_bitCount_0f7a4 wsJ6_bitCount_0f7a4) := goodIn_app (goodIn_of _ (by decide +kernel)) ggX2_openShare_J6_bitCount_0f7a4
set_option maxRecDepth 20000 in
theorem ggX2_openShare_X2_openPairs : GoodIn wsX2_openShare wsX2_openPairs := goodIn_ca (goodIn_r _ [16, 17, 4, 18, 19, 20, 15, 21, 22, 23, 24, 25, 26, 27, 28, 29, 30, 31, 32, 33, 34, 35, 36, 37, 38, 39, 40, 41, 42, 43, 44, 45, 46, 47, 48, 49, 50, 51, 52, 53, 54, 55, 56, 57, 58, 59, 60, 61, 62, 63, 64, 65, 66, 3, 67, 68, 69, 70, 71, 72, 73, 74, 75, 76, 77, 78, 79, 80, 81, 82, 83, 84, 85, 86, 87, 88, 89, 90, 91, 92, 93, 94, 95, 96, 97, 98, 99, 100, 101, 102, 103, 104, 105] (by decide +kernel) (by decide +kernel)) (goodIn_sub (fun _ h => List.mem_cons_of_mem _ (List.mem_append_right _ h)) (by decide +kernel))
set_option maxRecDepth 20000 in
theorem gX2_openShare_X2_openPairs : GoodIn wsX2_openShare (wsV RX2 198 RX2 yX2_openPairs wsX2_openPairs) := goodIn_app (goodIn_of _ (by decide +kernel)) ggX2_openShare_X2_openPairs
theorem dX2_openShare_0 : decode cX2_openShare 0 = .ok (.aload_n 0, 1) := by decide +kernel
theorem dX2_openShare_1 : decode cX2_openShare 1 = .ok (.getfield 47, 3) := by decide +kernel
theorem dX2_openShare_4 : decode cX2_openShare 4 = .ok (.invokestatic 175, 3) := by decide +kernel
theorem dX2_openShare_7 : decode cX2_openShare 7 = .ok (.aload_n 0, 1) := by decide +kernel
theorem dX2_openShare_8 : decode cX2_openShare 8 = .ok (.getfield 126, 3) := by decide +kernel
theorem dX2_openShare_11 : decode cX2_openShare 11 = .ok (.imul, 1) := by decide +kernel
theorem dX2_openShare_12 : decode cX2_openShare 12 = .ok (.istore_n 1, 1) := by decide +kernel
theorem dX2_openShare_13 : decode cX2_openShare 13 = .ok (.iload_n 1, 1) := by decide +kernel
theorem dX2_openShare_14 : decode cX2_openShare 14 = .ok (.ifCond .ne 13, 3) := by decide +kernel
theorem dX2_openShare_17 : decode cX2_openShare 17 = .ok (.new 193, 3) := by decide +kernel
theorem dX2_openShare_20 : decode cX2_openShare 20 = .ok (.dup, 1) := by decide +kernel
theorem dX2_openShare_21 : decode cX2_openShare 21 = .ok (.ldc 195, 2) := by decide +kernel
theorem dX2_openShare_23 : decode cX2_openShare 23 = .ok (.invokespecial 197, 3) := by decide +kernel
theorem dX2_openShare_26 : decode cX2_openShare 26 = .ok (.athrow, 1) := by decide +kernel
theorem dX2_openShare_27 : decode cX2_openShare 27 = .ok (.aload_n 0, 1) := by decide +kernel
theorem dX2_openShare_28 : decode cX2_openShare 28 = .ok (.invokevirtual 198, 3) := by decide +kernel
theorem dX2_openShare_31 : decode cX2_openShare 31 = .ok (.i2f, 1) := by decide +kernel
theorem dX2_openShare_32 : decode cX2_openShare 32 = .ok (.iload_n 1, 1) := by decide +kernel
theorem dX2_openShare_33 : decode cX2_openShare 33 = .ok (.i2f, 1) := by decide +kernel
theorem dX2_openShare_34 : decode cX2_openShare 34 = .ok (.fdiv, 1) := by decide +kernel
theorem dX2_openShare_35 : decode cX2_openShare 35 = .ok (.freturn, 1) := by decide +kernel
set_option maxRecDepth 20000 in
theorem ggX2_meanOwned_X1_at : GoodIn wsX2_meanOwned wsX1_at := goodIn_ca (goodIn_r _ [9, 10, 11, 47, 48] (by decide +kernel) (by decide +kernel)) (goodIn_sub (fun _ h => List.mem_cons_of_mem _ (List.mem_append_right _ h)) (by decide +kernel))
set_option maxRecDepth 20000 in
theorem gX2_meanOwned_X1_at : GoodIn wsX2_meanOwned (wsV RX2 70 RX1 yX1_at wsX1_at) := goodIn_app (goodIn_of _ (by decide +kernel)) ggX2_meanOwned_X1_at
set_option maxRecDepth 20000 in
theorem ggX2_meanOwned_X2_isActive : GoodIn wsX2_meanOwned wsX2_isActive := goodIn_r _ [16, 17, 18, 19, 15, 20, 31, 32, 33, 34, 35, 36, 37, 38, 39, 40, 41, 42, 43, 44, 45, 46] (by decide +kernel) (by decide +kernel)
set_option maxRecDepth 20000 in
theorem gX2_meanOwned_X2_isActive : GoodIn wsX2_meanOwned (wsV RX2 88 RX2 yX2_isActive wsX2_isActive) := goodIn_app (goodIn_of _ (by decide +kernel)) ggX2_meanOwned_X2_isActive
set_option maxRecDepth 20000 in
theorem ggX2_meanOwned_X2_with : GoodIn wsX2_meanOwned wsX2_with := goodIn_r _ [23] (by decide +kernel) (by decide +kernel)
set_option maxRecDepth 20000 in
theorem gX2_meanOwned_X2_with : GoodIn wsX2_meanOwned (va_wsS RX2 57 yX2_with wsX2_with) := goodIn_app (goodIn_of _ (by decide +kernel)) ggX2_meanOwned_X2_with
set_option maxRecDepth 20000 in
theorem ggX2_meanOwned_J6_bitCount_0f7a4 : GoodIn wsX2_meanOwned wsJ6_bitCount_0f7a4 := goodIn_r _ [27, 28, 29, 30] (by decide +kernel) (by decide +kernel)
set_option maxRecDepth 20000 in
theorem gX2_meanOwned_J6_bitCount_0f7a4 : GoodIn wsX2_meanOwned (va_wsS RX2 175 yJ6_bitCount_0f7a4 wsJ6_bitCount_0f7a4) := goodIn_app (goodIn_of _ (by decide +kernel)) ggX2_meanOwned_J6_bitCount_0f7a4
theorem dX2_meanOwned_0 : decode cX2_meanOwned 0 = .ok (.iconst 0, 1) := by decide +kernel
theorem dX2_meanOwned_1 : decode cX2_meanOwned 1 = .ok (.istore_n 1, 1) := by decide +kernel
theorem dX2_meanOwned_2 : decode cX2_meanOwned 2 = .ok (.iconst 0, 1) := by decide +kernel
theorem dX2_meanOwned_3 : decode cX2_meanOwned 3 = .ok (.istore_n 2, 1) := by decide +kernel
theorem dX2_meanOwned_4 : decode cX2_meanOwned 4 = .ok (.iconst 0, 1) := by decide +kernel
theorem dX2_meanOwned_5 : decode cX2_meanOwned 5 = .ok (.istore_n 3, 1) := by decide +kernel
theorem dX2_meanOwned_6 : decode cX2_meanOwned 6 = .ok (.iload_n 3, 1) := by decide +kernel
theorem dX2_meanOwned_7 : decode cX2_meanOwned 7 = .ok (.aload_n 0, 1) := by decide +kernel
theorem dX2_meanOwned_8 : decode cX2_meanOwned 8 = .ok (.getfield 126, 3) := by decide +kernel
theorem dX2_meanOwned_11 : decode cX2_meanOwned 11 = .ok (.if_icmp .ge 38, 3) := by decide +kernel
theorem dX2_meanOwned_14 : decode cX2_meanOwned 14 = .ok (.aload_n 0, 1) := by decide +kernel
theorem dX2_meanOwned_15 : decode cX2_meanOwned 15 = .ok (.getfield 18, 3) := by decide +kernel
theorem dX2_meanOwned_18 : decode cX2_meanOwned 18 = .ok (.iload_n 3, 1) := by decide +kernel
theorem dX2_meanOwned_19 : decode cX2_meanOwned 19 = .ok (.invokevirtual 70, 3) := by decide +kernel
theorem dX2_meanOwned_22 : decode cX2_meanOwned 22 = .ok (.istore 4, 2) := by decide +kernel
theorem dX2_meanOwned_24 : decode cX2_meanOwned 24 = .ok (.aload_n 0, 1) := by decide +kernel
theorem dX2_meanOwned_25 : decode cX2_meanOwned 25 = .ok (.iload 4, 2) := by decide +kernel
theorem dX2_meanOwned_27 : decode cX2_meanOwned 27 = .ok (.invokevirtual 88, 3) := by decide +kernel
theorem dX2_meanOwned_30 : decode cX2_meanOwned 30 = .ok (.ifCond .eq 13, 3) := by decide +kernel
theorem dX2_meanOwned_33 : decode cX2_meanOwned 33 = .ok (.iload_n 1, 1) := by decide +kernel
theorem dX2_meanOwned_34 : decode cX2_meanOwned 34 = .ok (.iload 4, 2) := by decide +kernel
theorem dX2_meanOwned_36 : decode cX2_meanOwned 36 = .ok (.invokestatic 57, 3) := by decide +kernel
theorem dX2_meanOwned_39 : decode cX2_meanOwned 39 = .ok (.istore_n 1, 1) := by decide +kernel
theorem dX2_meanOwned_40 : decode cX2_meanOwned 40 = .ok (.iinc 2 1, 3) := by decide +kernel
theorem dX2_meanOwned_43 : decode cX2_meanOwned 43 = .ok (.iinc 3 1, 3) := by decide +kernel
theorem dX2_meanOwned_46 : decode cX2_meanOwned 46 = .ok (.goto (-40), 3) := by decide +kernel
theorem dX2_meanOwned_49 : decode cX2_meanOwned 49 = .ok (.iload_n 1, 1) := by decide +kernel
theorem dX2_meanOwned_50 : decode cX2_meanOwned 50 = .ok (.invokestatic 175, 3) := by decide +kernel
theorem dX2_meanOwned_53 : decode cX2_meanOwned 53 = .ok (.istore_n 3, 1) := by decide +kernel
theorem dX2_meanOwned_54 : decode cX2_meanOwned 54 = .ok (.iload_n 3, 1) := by decide +kernel
theorem dX2_meanOwned_55 : decode cX2_meanOwned 55 = .ok (.ifCond .ne 13, 3) := by decide +kernel
theorem dX2_meanOwned_58 : decode cX2_meanOwned 58 = .ok (.new 193, 3) := by decide +kernel
theorem dX2_meanOwned_61 : decode cX2_meanOwned 61 = .ok (.dup, 1) := by decide +kernel
theorem dX2_meanOwned_62 : decode cX2_meanOwned 62 = .ok (.ldc 202, 2) := by decide +kernel
theorem dX2_meanOwned_64 : decode cX2_meanOwned 64 = .ok (.invokespecial 197, 3) := by decide +kernel
theorem dX2_meanOwned_67 : decode cX2_meanOwned 67 = .ok (.athrow, 1) := by decide +kernel
theorem dX2_meanOwned_68 : decode cX2_meanOwned 68 = .ok (.iload_n 2, 1) := by decide +kernel
theorem dX2_meanOwned_69 : decode cX2_meanOwned 69 = .ok (.i2d, 1) := by decide +kernel
theorem dX2_meanOwned_70 : decode cX2_meanOwned 70 = .ok (.iload_n 3, 1) := by decide +kernel
theorem dX2_meanOwned_71 : decode cX2_meanOwned 71 = .ok (.i2d, 1) := by decide +kernel
theorem dX2_meanOwned_72 : decode cX2_meanOwned 72 = .ok (.ddiv, 1) := by decide +kernel
theorem dX2_meanOwned_73 : decode cX2_meanOwned 73 = .ok (.dreturn, 1) := by decide +kernel
theorem dX2_requireAccount_0 : decode cX2_requireAccount 0 = .ok (.iload_n 1, 1) := by decide +kernel
theorem dX2_requireAccount_1 : decode cX2_requireAccount 1 = .ok (.ifCond .lt 11, 3) := by decide +kernel
theorem dX2_requireAccount_4 : decode cX2_requireAccount 4 = .ok (.iload_n 1, 1) := by decide +kernel
theorem dX2_requireAccount_5 : decode cX2_requireAccount 5 = .ok (.aload_n 0, 1) := by decide +kernel
theorem dX2_requireAccount_6 : decode cX2_requireAccount 6 = .ok (.getfield 43, 3) := by decide +kernel
theorem dX2_requireAccount_9 : decode cX2_requireAccount 9 = .ok (.if_icmp .lt 13, 3) := by decide +kernel
theorem dX2_requireAccount_12 : decode cX2_requireAccount 12 = .ok (.new 204, 3) := by decide +kernel
theorem dX2_requireAccount_15 : decode cX2_requireAccount 15 = .ok (.dup, 1) := by decide +kernel
theorem dX2_requireAccount_16 : decode cX2_requireAccount 16 = .ok (.ldc 206, 2) := by decide +kernel
theorem dX2_requireAccount_18 : decode cX2_requireAccount 18 = .ok (.invokespecial 208, 3) := by decide +kernel
theorem dX2_requireAccount_21 : decode cX2_requireAccount 21 = .ok (.athrow, 1) := by decide +kernel
theorem dX2_requireAccount_22 : decode cX2_requireAccount 22 = .ok (.return_, 1) := by decide +kernel
theorem dX2_requireGroup_0 : decode cX2_requireGroup 0 = .ok (.iload_n 1, 1) := by decide +kernel
theorem dX2_requireGroup_1 : decode cX2_requireGroup 1 = .ok (.ifCond .lt 11, 3) := by decide +kernel
theorem dX2_requireGroup_4 : decode cX2_requireGroup 4 = .ok (.iload_n 1, 1) := by decide +kernel
theorem dX2_requireGroup_5 : decode cX2_requireGroup 5 = .ok (.aload_n 0, 1) := by decide +kernel
theorem dX2_requireGroup_6 : decode cX2_requireGroup 6 = .ok (.getfield 77, 3) := by decide +kernel
theorem dX2_requireGroup_9 : decode cX2_requireGroup 9 = .ok (.if_icmp .lt 13, 3) := by decide +kernel
theorem dX2_requireGroup_12 : decode cX2_requireGroup 12 = .ok (.new 204, 3) := by decide +kernel
theorem dX2_requireGroup_15 : decode cX2_requireGroup 15 = .ok (.dup, 1) := by decide +kernel
theorem dX2_requireGroup_16 : decode cX2_requireGroup 16 = .ok (.ldc 209, 2) := by decide +kernel
theorem dX2_requireGroup_18 : decode cX2_requireGroup 18 = .ok (.invokespecial 208, 3) := by decide +kernel
theorem dX2_requireGroup_21 : decode cX2_requireGroup 21 = .ok (.athrow, 1) := by decide +kernel
theorem dX2_requireGroup_22 : decode cX2_requireGroup 22 = .ok (.return_, 1) := by decide +kernel
theorem dX2_requireFolder_0 : decode cX2_requireFolder 0 = .ok (.iload_n 1, 1) := by decide +kernel
theorem dX2_requireFolder_1 : decode cX2_requireFolder 1 = .ok (.ifCond .lt 11, 3) := by decide +kernel
theorem dX2_requireFolder_4 : decode cX2_requireFolder 4 = .ok (.iload_n 1, 1) := by decide +kernel
theorem dX2_requireFolder_5 : decode cX2_requireFolder 5 = .ok (.aload_n 0, 1) := by decide +kernel
theorem dX2_requireFolder_6 : decode cX2_requireFolder 6 = .ok (.getfield 126, 3) := by decide +kernel
theorem dX2_requireFolder_9 : decode cX2_requireFolder 9 = .ok (.if_icmp .lt 13, 3) := by decide +kernel
theorem dX2_requireFolder_12 : decode cX2_requireFolder 12 = .ok (.new 204, 3) := by decide +kernel
theorem dX2_requireFolder_15 : decode cX2_requireFolder 15 = .ok (.dup, 1) := by decide +kernel
theorem dX2_requireFolder_16 : decode cX2_requireFolder 16 = .ok (.ldc 211, 2) := by decide +kernel
theorem dX2_requireFolder_18 : decode cX2_requireFolder 18 = .ok (.invokespecial 208, 3) := by decide +kernel
theorem dX2_requireFolder_21 : decode cX2_requireFolder 21 = .ok (.athrow, 1) := by decide +kernel
theorem dX2_requireFolder_22 : decode cX2_requireFolder 22 = .ok (.return_, 1) := by decide +kernel
theorem dX2_requireRoom_0 : decode cX2_requireRoom 0 = .ok (.iload_n 1, 1) := by decide +kernel
theorem dX2_requireRoom_1 : decode cX2_requireRoom 1 = .ok (.ifCond .lt 11, 3) := by decide +kernel
theorem dX2_requireRoom_4 : decode cX2_requireRoom 4 = .ok (.iload_n 1, 1) := by decide +kernel
theorem dX2_requireRoom_5 : decode cX2_requireRoom 5 = .ok (.aload_n 0, 1) := by decide +kernel
theorem dX2_requireRoom_6 : decode cX2_requireRoom 6 = .ok (.getfield 153, 3) := by decide +kernel
theorem dX2_requireRoom_9 : decode cX2_requireRoom 9 = .ok (.if_icmp .lt 13, 3) := by decide +kernel
theorem dX2_requireRoom_12 : decode cX2_requireRoom 12 = .ok (.new 204, 3) := by decide +kernel
theorem dX2_requireRoom_15 : decode cX2_requireRoom 15 = .ok (.dup, 1) := by decide +kernel
theorem dX2_requireRoom_16 : decode cX2_requireRoom 16 = .ok (.ldc 213, 2) := by decide +kernel
theorem dX2_requireRoom_18 : decode cX2_requireRoom 18 = .ok (.invokespecial 208, 3) := by decide +kernel
theorem dX2_requireRoom_21 : decode cX2_requireRoom 21 = .ok (.athrow, 1) := by decide +kernel
theorem dX2_requireRoom_22 : decode cX2_requireRoom 22 = .ok (.return_, 1) := by decide +kernel
theorem dX2_requireEnd_0 : decode cX2_requireEnd 0 = .ok (.iload_n 1, 1) := by decide +kernel
theorem dX2_requireEnd_1 : decode cX2_requireEnd 1 = .ok (.iconst (-1), 1) := by decide +kernel
theorem dX2_requireEnd_2 : decode cX2_requireEnd 2 = .ok (.if_icmp .eq 28, 3) := by decide +kernel
theorem dX2_requireEnd_5 : decode cX2_requireEnd 5 = .ok (.iload_n 1, 1) := by decide +kernel
theorem dX2_requireEnd_6 : decode cX2_requireEnd 6 = .ok (.aload_n 0, 1) := by decide +kernel
theorem dX2_requireEnd_7 : decode cX2_requireEnd 7 = .ok (.getfield 185, 3) := by decide +kernel
theorem dX2_requireEnd_10 : decode cX2_requireEnd 10 = .ok (.if_icmp .le 10, 3) := by decide +kernel
theorem dX2_requireEnd_13 : decode cX2_requireEnd 13 = .ok (.iload_n 1, 1) := by decide +kernel
theorem dX2_requireEnd_14 : decode cX2_requireEnd 14 = .ok (.sipush 999, 3) := by decide +kernel
theorem dX2_requireEnd_17 : decode cX2_requireEnd 17 = .ok (.if_icmp .le 13, 3) := by decide +kernel
theorem dX2_requireEnd_20 : decode cX2_requireEnd 20 = .ok (.new 65, 3) := by decide +kernel
theorem dX2_requireEnd_23 : decode cX2_requireEnd 23 = .ok (.dup, 1) := by decide +kernel
theorem dX2_requireEnd_24 : decode cX2_requireEnd 24 = .ok (.ldc 215, 2) := by decide +kernel
theorem dX2_requireEnd_26 : decode cX2_requireEnd 26 = .ok (.invokespecial 69, 3) := by decide +kernel
theorem dX2_requireEnd_29 : decode cX2_requireEnd 29 = .ok (.athrow, 1) := by decide +kernel
theorem dX2_requireEnd_30 : decode cX2_requireEnd 30 = .ok (.return_, 1) := by decide +kernel
set_option maxRecDepth 20000 in
theorem ggX2_requireNotHeld_X2_isHeld : GoodIn wsX2_requireNotHeld wsX2_isHeld := goodIn_r _ [7, 8, 9, 10, 6, 11, 12, 13, 14, 15, 16, 17, 18, 19, 20, 21, 22, 23, 24, 25, 26, 27] (by decide +kernel) (by decide +kernel)
set_option maxRecDepth 20000 in
theorem gX2_requireNotHeld_X2_isHeld : GoodIn wsX2_requireNotHeld (wsV RX2 180 RX2 yX2_isHeld wsX2_isHeld) := goodIn_app (goodIn_of _ (by decide +kernel)) ggX2_requireNotHeld_X2_isHeld
theorem dX2_requireNotHeld_0 : decode cX2_requireNotHeld 0 = .ok (.aload_n 0, 1) := by decide +kernel
theorem dX2_requireNotHeld_1 : decode cX2_requireNotHeld 1 = .ok (.iload_n 1, 1) := by decide +kernel
theorem dX2_requireNotHeld_2 : decode cX2_requireNotHeld 2 = .ok (.invokevirtual 180, 3) := by decide +kernel
theorem dX2_requireNotHeld_5 : decode cX2_requireNotHeld 5 = .ok (.ifCond .eq 13, 3) := by decide +kernel
theorem dX2_requireNotHeld_8 : decode cX2_requireNotHeld 8 = .ok (.new 50, 3) := by decide +kernel
theorem dX2_requireNotHeld_11 : decode cX2_requireNotHeld 11 = .ok (.dup, 1) := by decide +kernel
theorem dX2_requireNotHeld_12 : decode cX2_requireNotHeld 12 = .ok (.ldc 217, 2) := by decide +kernel
theorem dX2_requireNotHeld_14 : decode cX2_requireNotHeld 14 = .ok (.invokespecial 54, 3) := by decide +kernel
theorem dX2_requireNotHeld_17 : decode cX2_requireNotHeld 17 = .ok (.athrow, 1) := by decide +kernel
theorem dX2_requireNotHeld_18 : decode cX2_requireNotHeld 18 = .ok (.return_, 1) := by decide +kernel
theorem dX2_requireRight_0 : decode cX2_requireRight 0 = .ok (.iload_n 0, 1) := by decide +kernel
theorem dX2_requireRight_1 : decode cX2_requireRight 1 = .ok (.iload_n 1, 1) := by decide +kernel
theorem dX2_requireRight_2 : decode cX2_requireRight 2 = .ok (.if_icmp .lt 8, 3) := by decide +kernel
theorem dX2_requireRight_5 : decode cX2_requireRight 5 = .ok (.iload_n 0, 1) := by decide +kernel
theorem dX2_requireRight_6 : decode cX2_requireRight 6 = .ok (.iload_n 2, 1) := by decide +kernel
theorem dX2_requireRight_7 : decode cX2_requireRight 7 = .ok (.if_icmp .le 13, 3) := by decide +kernel
theorem dX2_requireRight_10 : decode cX2_requireRight 10 = .ok (.new 65, 3) := by decide +kernel
theorem dX2_requireRight_13 : decode cX2_requireRight 13 = .ok (.dup, 1) := by decide +kernel
theorem dX2_requireRight_14 : decode cX2_requireRight 14 = .ok (.ldc 219, 2) := by decide +kernel
theorem dX2_requireRight_16 : decode cX2_requireRight 16 = .ok (.invokespecial 69, 3) := by decide +kernel
theorem dX2_requireRight_19 : decode cX2_requireRight 19 = .ok (.athrow, 1) := by decide +kernel
theorem dX2_requireRight_20 : decode cX2_requireRight 20 = .ok (.return_, 1) := by decide +kernel
set_option maxRecDepth 20000 in
theorem ggX2_isActive_X2_contains : GoodIn wsX2_isActive wsX2_contains := goodIn_r _ [5] (by decide +kernel) (by decide +kernel)
set_option maxRecDepth 20000 in
theorem gX2_isActive_X2_contains : GoodIn wsX2_isActive (va_wsS RX2 106 yX2_contains wsX2_contains) := goodIn_app (goodIn_of _ (by decide +kernel)) ggX2_isActive_X2_contains
theorem dX2_isActive_0 : decode cX2_isActive 0 = .ok (.aload_n 0, 1) := by decide +kernel
theorem dX2_isActive_1 : decode cX2_isActive 1 = .ok (.getfield 47, 3) := by decide +kernel
theorem dX2_isActive_4 : decode cX2_isActive 4 = .ok (.iload_n 1, 1) := by decide +kernel
theorem dX2_isActive_5 : decode cX2_isActive 5 = .ok (.invokestatic 106, 3) := by decide +kernel
theorem dX2_isActive_8 : decode cX2_isActive 8 = .ok (.ireturn, 1) := by decide +kernel
set_option maxRecDepth 20000 in
theorem ggX2_isMember_X0_at : GoodIn wsX2_isMember wsX0_at := goodIn_ca (goodIn_r _ [6, 7, 8, 25, 26] (by decide +kernel) (by decide +kernel)) (goodIn_sub (fun _ h => List.mem_cons_of_mem _ (List.mem_append_right _ h)) (by decide +kernel))
set_option maxRecDepth 20000 in
theorem gX2_isMember_X0_at : GoodIn wsX2_isMember (wsV RX2 221 RX0 yX0_at wsX0_at) := goodIn_app (goodIn_of _ (by decide +kernel)) ggX2_isMember_X0_at
theorem dX2_isMember_0 : decode cX2_isMember 0 = .ok (.aload_n 0, 1) := by decide +kernel
theorem dX2_isMember_1 : decode cX2_isMember 1 = .ok (.getfield 30, 3) := by decide +kernel
theorem dX2_isMember_4 : decode cX2_isMember 4 = .ok (.iload_n 2, 1) := by decide +kernel
theorem dX2_isMember_5 : decode cX2_isMember 5 = .ok (.iload_n 1, 1) := by decide +kernel
theorem dX2_isMember_6 : decode cX2_isMember 6 = .ok (.invokevirtual 221, 3) := by decide +kernel
theorem dX2_isMember_9 : decode cX2_isMember 9 = .ok (.ifCond .eq 7, 3) := by decide +kernel
theorem dX2_isMember_12 : decode cX2_isMember 12 = .ok (.iconst 1, 1) := by decide +kernel
theorem dX2_isMember_13 : decode cX2_isMember 13 = .ok (.goto 4, 3) := by decide +kernel
theorem dX2_isMember_16 : decode cX2_isMember 16 = .ok (.iconst 0, 1) := by decide +kernel
theorem dX2_isMember_17 : decode cX2_isMember 17 = .ok (.ireturn, 1) := by decide +kernel
set_option maxRecDepth 20000 in
theorem ggX2_isNested_X0_at : GoodIn wsX2_isNested wsX0_at := goodIn_ca (goodIn_r _ [6, 7, 8, 25, 26] (by decide +kernel) (by decide +kernel)) (goodIn_sub (fun _ h => List.mem_cons_of_mem _ (List.mem_append_right _ h)) (by decide +kernel))
set_option maxRecDepth 20000 in
theorem gX2_isNested_X0_at : GoodIn wsX2_isNested (wsV RX2 221 RX0 yX0_at wsX0_at) := goodIn_app (goodIn_of _ (by decide +kernel)) ggX2_isNested_X0_at
theorem dX2_isNested_0 : decode cX2_isNested 0 = .ok (.aload_n 0, 1) := by decide +kernel
theorem dX2_isNested_1 : decode cX2_isNested 1 = .ok (.getfield 34, 3) := by decide +kernel
theorem dX2_isNested_4 : decode cX2_isNested 4 = .ok (.iload_n 2, 1) := by decide +kernel
theorem dX2_isNested_5 : decode cX2_isNested 5 = .ok (.iload_n 1, 1) := by decide +kernel
theorem dX2_isNested_6 : decode cX2_isNested 6 = .ok (.invokevirtual 221, 3) := by decide +kernel
theorem dX2_isNested_9 : decode cX2_isNested 9 = .ok (.ifCond .eq 7, 3) := by decide +kernel
theorem dX2_isNested_12 : decode cX2_isNested 12 = .ok (.iconst 1, 1) := by decide +kernel
theorem dX2_isNested_13 : decode cX2_isNested 13 = .ok (.goto 4, 3) := by decide +kernel
theorem dX2_isNested_16 : decode cX2_isNested 16 = .ok (.iconst 0, 1) := by decide +kernel
theorem dX2_isNested_17 : decode cX2_isNested 17 = .ok (.ireturn, 1) := by decide +kernel
set_option maxRecDepth 20000 in
theorem ggX2_groupsOf_X2_isMember : GoodIn wsX2_groupsOf wsX2_isMember := goodIn_ca (goodIn_r _ [6, 7, 8, 9, 10, 11, 12, 13, 14, 34, 35, 36, 37, 38, 39, 40, 41, 42, 43, 44, 45, 46, 47, 48, 49, 50, 51] (by decide +kernel) (by decide +kernel)) (goodIn_sub (fun _ h => List.mem_cons_of_mem _ (List.mem_append_right _ h)) (by decide +kernel))
set_option maxRecDepth 20000 in
theorem gX2_groupsOf_X2_isMember : GoodIn wsX2_groupsOf (wsV RX2 112 RX2 yX2_isMember wsX2_isMember) := goodIn_app (goodIn_of _ (by decide +kernel)) ggX2_groupsOf_X2_isMember
set_option maxRecDepth 20000 in
theorem ggX2_groupsOf_X2_with : GoodIn wsX2_groupsOf wsX2_with := goodIn_r _ [17] (by decide +kernel) (by decide +kernel)
set_option maxRecDepth 20000 in
theorem gX2_groupsOf_X2_with : GoodIn wsX2_groupsOf (va_wsS RX2 57 yX2_with wsX2_with) := goodIn_app (goodIn_of _ (by decide +kernel)) ggX2_groupsOf_X2_with
set_option maxRecDepth 20000 in
theorem ggX2_groupsOf_X2_andAllAround : GoodIn wsX2_groupsOf wsX2_andAllAround := goodIn_ca (goodIn_r _ [21, 1, 22, 23, 5, 24, 25, 26, 27, 28, 29, 30, 31, 32, 33, 8, 9, 10, 11, 12, 13, 14, 15, 16, 17, 34, 35, 36, 37, 38, 39, 40, 41, 42, 43, 44, 45, 46, 47, 48, 49, 50, 51] (by decide +kernel) (by decide +kernel)) (goodIn_sub (fun _ h => List.mem_cons_of_mem _ (List.mem_append_right _ h)) (by decide +kernel))
set_option maxRecDepth 20000 in
theorem gX2_groupsOf_X2_andAllAround : GoodIn wsX2_groupsOf (wsV RX2 103 RX2 yX2_andAllAround wsX2_andAllAround) := goodIn_app (goodIn_of _ (by decide +kernel)) ggX2_groupsOf_X2_andAllAround
theorem dX2_groupsOf_0 : decode cX2_groupsOf 0 = .ok (.iconst 0, 1) := by decide +kernel
theorem dX2_groupsOf_1 : decode cX2_groupsOf 1 = .ok (.istore_n 2, 1) := by decide +kernel
theorem dX2_groupsOf_2 : decode cX2_groupsOf 2 = .ok (.iconst 0, 1) := by decide +kernel
theorem dX2_groupsOf_3 : decode cX2_groupsOf 3 = .ok (.istore_n 3, 1) := by decide +kernel
theorem dX2_groupsOf_4 : decode cX2_groupsOf 4 = .ok (.iload_n 3, 1) := by decide +kernel
theorem dX2_groupsOf_5 : decode cX2_groupsOf 5 = .ok (.aload_n 0, 1) := by decide +kernel
theorem dX2_groupsOf_6 : decode cX2_groupsOf 6 = .ok (.getfield 77, 3) := by decide +kernel
theorem dX2_groupsOf_9 : decode cX2_groupsOf 9 = .ok (.if_icmp .ge 24, 3) := by decide +kernel
theorem dX2_groupsOf_12 : decode cX2_groupsOf 12 = .ok (.aload_n 0, 1) := by decide +kernel
theorem dX2_groupsOf_13 : decode cX2_groupsOf 13 = .ok (.iload_n 1, 1) := by decide +kernel
theorem dX2_groupsOf_14 : decode cX2_groupsOf 14 = .ok (.iload_n 3, 1) := by decide +kernel
theorem dX2_groupsOf_15 : decode cX2_groupsOf 15 = .ok (.invokevirtual 112, 3) := by decide +kernel
theorem dX2_groupsOf_18 : decode cX2_groupsOf 18 = .ok (.ifCond .eq 9, 3) := by decide +kernel
theorem dX2_groupsOf_21 : decode cX2_groupsOf 21 = .ok (.iload_n 2, 1) := by decide +kernel
theorem dX2_groupsOf_22 : decode cX2_groupsOf 22 = .ok (.iload_n 3, 1) := by decide +kernel
theorem dX2_groupsOf_23 : decode cX2_groupsOf 23 = .ok (.invokestatic 57, 3) := by decide +kernel
theorem dX2_groupsOf_26 : decode cX2_groupsOf 26 = .ok (.istore_n 2, 1) := by decide +kernel
theorem dX2_groupsOf_27 : decode cX2_groupsOf 27 = .ok (.iinc 3 1, 3) := by decide +kernel
theorem dX2_groupsOf_30 : decode cX2_groupsOf 30 = .ok (.goto (-26), 3) := by decide +kernel
theorem dX2_groupsOf_33 : decode cX2_groupsOf 33 = .ok (.aload_n 0, 1) := by decide +kernel
theorem dX2_groupsOf_34 : decode cX2_groupsOf 34 = .ok (.iload_n 2, 1) := by decide +kernel
theorem dX2_groupsOf_35 : decode cX2_groupsOf 35 = .ok (.invokevirtual 103, 3) := by decide +kernel
theorem dX2_groupsOf_38 : decode cX2_groupsOf 38 = .ok (.ireturn, 1) := by decide +kernel
set_option maxRecDepth 20000 in
theorem ggX2_andAllAround_X2_contains : GoodIn wsX2_andAllAround wsX2_contains := goodIn_r _ [5] (by decide +kernel) (by decide +kernel)
set_option maxRecDepth 20000 in
theorem gX2_andAllAround_X2_contains : GoodIn wsX2_andAllAround (va_wsS RX2 106 yX2_contains wsX2_contains) := goodIn_app (goodIn_of _ (by decide +kernel)) ggX2_andAllAround_X2_contains
set_option maxRecDepth 20000 in
theorem ggX2_andAllAround_X2_groupsNextAround : GoodIn wsX2_andAllAround wsX2_groupsNextAround := goodIn_ca (goodIn_r _ [9, 1, 10, 11, 12, 4, 13, 14, 15, 16, 17, 18, 19, 20, 21, 22, 23, 24, 25, 26, 27, 28, 29, 30, 31, 32, 33, 34, 35, 36, 37, 38, 39, 40, 41, 42] (by decide +kernel) (by decide +kernel)) (goodIn_sub (fun _ h => List.mem_cons_of_mem _ (List.mem_append_right _ h)) (by decide +kernel))
set_option maxRecDepth 20000 in
theorem gX2_andAllAround_X2_groupsNextAround : GoodIn wsX2_andAllAround (wsV RX2 223 RX2 yX2_groupsNextAround wsX2_groupsNextAround) := goodIn_app (goodIn_of _ (by decide +kernel)) ggX2_andAllAround_X2_groupsNextAround
theorem dX2_andAllAround_0 : decode cX2_andAllAround 0 = .ok (.iload_n 1, 1) := by decide +kernel
theorem dX2_andAllAround_1 : decode cX2_andAllAround 1 = .ok (.istore_n 2, 1) := by decide +kernel
theorem dX2_andAllAround_2 : decode cX2_andAllAround 2 = .ok (.iconst 0, 1) := by decide +kernel
theorem dX2_andAllAround_3 : decode cX2_andAllAround 3 = .ok (.istore_n 3, 1) := by decide +kernel
theorem dX2_andAllAround_4 : decode cX2_andAllAround 4 = .ok (.iload_n 3, 1) := by decide +kernel
theorem dX2_andAllAround_5 : decode cX2_andAllAround 5 = .ok (.bipush 6, 2) := by decide +kernel
theorem dX2_andAllAround_7 : decode cX2_andAllAround 7 = .ok (.if_icmp .ge 57, 3) := by decide +kernel
theorem dX2_andAllAround_10 : decode cX2_andAllAround 10 = .ok (.iload_n 2, 1) := by decide +kernel
theorem dX2_andAllAround_11 : decode cX2_andAllAround 11 = .ok (.istore 4, 2) := by decide +kernel
theorem dX2_andAllAround_13 : decode cX2_andAllAround 13 = .ok (.iconst 0, 1) := by decide +kernel
theorem dX2_andAllAround_14 : decode cX2_andAllAround 14 = .ok (.istore 5, 2) := by decide +kernel
theorem dX2_andAllAround_16 : decode cX2_andAllAround 16 = .ok (.iload 5, 2) := by decide +kernel
theorem dX2_andAllAround_18 : decode cX2_andAllAround 18 = .ok (.aload_n 0, 1) := by decide +kernel
theorem dX2_andAllAround_19 : decode cX2_andAllAround 19 = .ok (.getfield 77, 3) := by decide +kernel
theorem dX2_andAllAround_22 : decode cX2_andAllAround 22 = .ok (.if_icmp .ge 27, 3) := by decide +kernel
theorem dX2_andAllAround_25 : decode cX2_andAllAround 25 = .ok (.iload_n 2, 1) := by decide +kernel
theorem dX2_andAllAround_26 : decode cX2_andAllAround 26 = .ok (.iload 5, 2) := by decide +kernel
theorem dX2_andAllAround_28 : decode cX2_andAllAround 28 = .ok (.invokestatic 106, 3) := by decide +kernel
theorem dX2_andAllAround_31 : decode cX2_andAllAround 31 = .ok (.ifCond .eq 12, 3) := by decide +kernel
theorem dX2_andAllAround_34 : decode cX2_andAllAround 34 = .ok (.iload_n 2, 1) := by decide +kernel
theorem dX2_andAllAround_35 : decode cX2_andAllAround 35 = .ok (.aload_n 0, 1) := by decide +kernel
theorem dX2_andAllAround_36 : decode cX2_andAllAround 36 = .ok (.iload 5, 2) := by decide +kernel
theorem dX2_andAllAround_38 : decode cX2_andAllAround 38 = .ok (.invokevirtual 223, 3) := by decide +kernel
theorem dX2_andAllAround_41 : decode cX2_andAllAround 41 = .ok (.ior, 1) := by decide +kernel
theorem dX2_andAllAround_42 : decode cX2_andAllAround 42 = .ok (.istore_n 2, 1) := by decide +kernel
theorem dX2_andAllAround_43 : decode cX2_andAllAround 43 = .ok (.iinc 5 1, 3) := by decide +kernel
theorem dX2_andAllAround_46 : decode cX2_andAllAround 46 = .ok (.goto (-30), 3) := by decide +kernel
theorem dX2_andAllAround_49 : decode cX2_andAllAround 49 = .ok (.iload_n 2, 1) := by decide +kernel
theorem dX2_andAllAround_50 : decode cX2_andAllAround 50 = .ok (.iload 4, 2) := by decide +kernel
theorem dX2_andAllAround_52 : decode cX2_andAllAround 52 = .ok (.if_icmp .ne 6, 3) := by decide +kernel
theorem dX2_andAllAround_55 : decode cX2_andAllAround 55 = .ok (.goto 9, 3) := by decide +kernel
theorem dX2_andAllAround_58 : decode cX2_andAllAround 58 = .ok (.iinc 3 1, 3) := by decide +kernel
theorem dX2_andAllAround_61 : decode cX2_andAllAround 61 = .ok (.goto (-57), 3) := by decide +kernel
theorem dX2_andAllAround_64 : decode cX2_andAllAround 64 = .ok (.iload_n 2, 1) := by decide +kernel
theorem dX2_andAllAround_65 : decode cX2_andAllAround 65 = .ok (.ireturn, 1) := by decide +kernel
set_option maxRecDepth 20000 in
theorem ggX2_groupsNextAround_X2_isNested : GoodIn wsX2_groupsNextAround wsX2_isNested := goodIn_ca (goodIn_r _ [6, 7, 8, 9, 10, 11, 12, 13, 14, 18, 19, 20, 21, 22, 23, 24, 25, 26, 27, 28, 29, 30, 31, 32, 33, 34, 35] (by decide +kernel) (by decide +kernel)) (goodIn_sub (fun _ h => List.mem_cons_of_mem _ (List.mem_append_right _ h)) (by decide +kernel))
set_option maxRecDepth 20000 in
theorem gX2_groupsNextAround_X2_isNested : GoodIn wsX2_groupsNextAround (wsV RX2 226 RX2 yX2_isNested wsX2_isNested) := goodIn_app (goodIn_of _ (by decide +kernel)) ggX2_groupsNextAround_X2_isNested
set_option maxRecDepth 20000 in
theorem ggX2_groupsNextAround_X2_with : GoodIn wsX2_groupsNextAround wsX2_with := goodIn_r _ [17] (by decide +kernel) (by decide +kernel)
set_option maxRecDepth 20000 in
theorem gX2_groupsNextAround_X2_with : GoodIn wsX2_groupsNextAround (va_wsS RX2 57 yX2_with wsX2_with) := goodIn_app (goodIn_of _ (by decide +kernel)) ggX2_groupsNextAround_X2_with
theorem dX2_groupsNextAround_0 : decode cX2_groupsNextAround 0 = .ok (.iconst 0, 1) := by decide +kernel
theorem dX2_groupsNextAround_1 : decode cX2_groupsNextAround 1 = .ok (.istore_n 2, 1) := by decide +kernel
theorem dX2_groupsNextAround_2 : decode cX2_groupsNextAround 2 = .ok (.iconst 0, 1) := by decide +kernel
theorem dX2_groupsNextAround_3 : decode cX2_groupsNextAround 3 = .ok (.istore_n 3, 1) := by decide +kernel
theorem dX2_groupsNextAround_4 : decode cX2_groupsNextAround 4 = .ok (.iload_n 3, 1) := by decide +kernel
theorem dX2_groupsNextAround_5 : decode cX2_groupsNextAround 5 = .ok (.aload_n 0, 1) := by decide +kernel
theorem dX2_groupsNextAround_6 : decode cX2_groupsNextAround 6 = .ok (.getfield 77, 3) := by decide +kernel
theorem dX2_groupsNextAround_9 : decode cX2_groupsNextAround 9 = .ok (.if_icmp .ge 24, 3) := by decide +kernel
theorem dX2_groupsNextAround_12 : decode cX2_groupsNextAround 12 = .ok (.aload_n 0, 1) := by decide +kernel
theorem dX2_groupsNextAround_13 : decode cX2_groupsNextAround 13 = .ok (.iload_n 1, 1) := by decide +kernel
theorem dX2_groupsNextAround_14 : decode cX2_groupsNextAround 14 = .ok (.iload_n 3, 1) := by decide +kernel
theorem dX2_groupsNextAround_15 : decode cX2_groupsNextAround 15 = .ok (.invokevirtual 226, 3) := by decide +kernel
theorem dX2_groupsNextAround_18 : decode cX2_groupsNextAround 18 = .ok (.ifCond .eq 9, 3) := by decide +kernel
theorem dX2_groupsNextAround_21 : decode cX2_groupsNextAround 21 = .ok (.iload_n 2, 1) := by decide +kernel
theorem dX2_groupsNextAround_22 : decode cX2_groupsNextAround 22 = .ok (.iload_n 3, 1) := by decide +kernel
theorem dX2_groupsNextAround_23 : decode cX2_groupsNextAround 23 = .ok (.invokestatic 57, 3) := by decide +kernel
theorem dX2_groupsNextAround_26 : decode cX2_groupsNextAround 26 = .ok (.istore_n 2, 1) := by decide +kernel
theorem dX2_groupsNextAround_27 : decode cX2_groupsNextAround 27 = .ok (.iinc 3 1, 3) := by decide +kernel
theorem dX2_groupsNextAround_30 : decode cX2_groupsNextAround 30 = .ok (.goto (-26), 3) := by decide +kernel
theorem dX2_groupsNextAround_33 : decode cX2_groupsNextAround 33 = .ok (.iload_n 2, 1) := by decide +kernel
theorem dX2_groupsNextAround_34 : decode cX2_groupsNextAround 34 = .ok (.ireturn, 1) := by decide +kernel
set_option maxRecDepth 20000 in
theorem ggX2_leadsTo_X2_isMember : GoodIn wsX2_leadsTo wsX2_isMember := goodIn_ca (goodIn_r _ [6, 7, 8, 9, 10, 11, 12, 13, 14, 23, 24, 25, 26, 27, 28, 29, 30, 31, 32, 33, 34, 35, 36, 37, 38, 39, 40] (by decide +kernel) (by decide +kernel)) (goodIn_sub (fun _ h => List.mem_cons_of_mem _ (List.mem_append_right _ h)) (by decide +kernel))
set_option maxRecDepth 20000 in
theorem gX2_leadsTo_X2_isMember : GoodIn wsX2_leadsTo (wsV RX2 112 RX2 yX2_isMember wsX2_isMember) := goodIn_app (goodIn_of _ (by decide +kernel)) ggX2_leadsTo_X2_isMember
set_option maxRecDepth 20000 in
theorem ggX2_leadsTo_X2_isNested : GoodIn wsX2_leadsTo wsX2_isNested := goodIn_ca (goodIn_r _ [18, 19, 8, 9, 10, 11, 12, 13, 14, 23, 24, 25, 26, 27, 28, 29, 30, 31, 32, 33, 34, 35, 36, 37, 38, 39, 40] (by decide +kernel) (by decide +kernel)) (goodIn_sub (fun _ h => List.mem_cons_of_mem _ (List.mem_append_right _ h)) (by decide +kernel))
set_option maxRecDepth 20000 in
theorem gX2_leadsTo_X2_isNested : GoodIn wsX2_leadsTo (wsV RX2 226 RX2 yX2_isNested wsX2_isNested) := goodIn_app (goodIn_of _ (by decide +kernel)) ggX2_leadsTo_X2_isNested
set_option maxRecDepth 20000 in
theorem ggX2_leadsTo_X2_leadsTo : GoodIn wsX2_leadsTo wsX2_leadsTo := goodIn_ca (goodIn_r _ [0, 1, 2, 3, 4, 5, 6, 7, 8, 9, 10, 11, 12, 13, 14, 15, 16, 17, 18, 19, 20, 21, 22, 23, 24, 25, 26, 27, 28, 29, 30, 31, 32, 33, 34, 35, 36, 37, 38, 39, 40] (by decide +kernel) (by decide +kernel)) (goodIn_sub (fun _ h => List.mem_cons_of_mem _ (List.mem_append_right _ h)) (by decide +kernel))
set_option maxRecDepth 20000 in
theorem gX2_leadsTo_X2_leadsTo : GoodIn wsX2_leadsTo (wsV RX2 229 RX2 yX2_leadsTo wsX2_leadsTo) := goodIn_app (goodIn_of _ (by decide +kernel)) ggX2_leadsTo_X2_leadsTo
theorem dX2_leadsTo_0 : decode cX2_leadsTo 0 = .ok (.aload_n 0, 1) := by decide +kernel
theorem dX2_leadsTo_1 : decode cX2_leadsTo 1 = .ok (.iload_n 1, 1) := by decide +kernel
theorem dX2_leadsTo_2 : decode cX2_leadsTo 2 = .ok (.iload_n 2, 1) := by decide +kernel
theorem dX2_leadsTo_3 : decode cX2_leadsTo 3 = .ok (.invokevirtual 112, 3) := by decide +kernel
theorem dX2_leadsTo_6 : decode cX2_leadsTo 6 = .ok (.ifCond .eq 5, 3) := by decide +kernel
theorem dX2_leadsTo_9 : decode cX2_leadsTo 9 = .ok (.iconst 1, 1) := by decide +kernel
theorem dX2_leadsTo_10 : decode cX2_leadsTo 10 = .ok (.ireturn, 1) := by decide +kernel
theorem dX2_leadsTo_11 : decode cX2_leadsTo 11 = .ok (.iload_n 3, 1) := by decide +kernel
theorem dX2_leadsTo_12 : decode cX2_leadsTo 12 = .ok (.bipush 6, 2) := by decide +kernel
theorem dX2_leadsTo_14 : decode cX2_leadsTo 14 = .ok (.if_icmp .lt 5, 3) := by decide +kernel
theorem dX2_leadsTo_17 : decode cX2_leadsTo 17 = .ok (.iconst 0, 1) := by decide +kernel
theorem dX2_leadsTo_18 : decode cX2_leadsTo 18 = .ok (.ireturn, 1) := by decide +kernel
theorem dX2_leadsTo_19 : decode cX2_leadsTo 19 = .ok (.iconst 0, 1) := by decide +kernel
theorem dX2_leadsTo_20 : decode cX2_leadsTo 20 = .ok (.istore 4, 2) := by decide +kernel
theorem dX2_leadsTo_22 : decode cX2_leadsTo 22 = .ok (.iload 4, 2) := by decide +kernel
theorem dX2_leadsTo_24 : decode cX2_leadsTo 24 = .ok (.aload_n 0, 1) := by decide +kernel
theorem dX2_leadsTo_25 : decode cX2_leadsTo 25 = .ok (.getfield 77, 3) := by decide +kernel
theorem dX2_leadsTo_28 : decode cX2_leadsTo 28 = .ok (.if_icmp .ge 34, 3) := by decide +kernel
theorem dX2_leadsTo_31 : decode cX2_leadsTo 31 = .ok (.aload_n 0, 1) := by decide +kernel
theorem dX2_leadsTo_32 : decode cX2_leadsTo 32 = .ok (.iload 4, 2) := by decide +kernel
theorem dX2_leadsTo_34 : decode cX2_leadsTo 34 = .ok (.iload_n 2, 1) := by decide +kernel
theorem dX2_leadsTo_35 : decode cX2_leadsTo 35 = .ok (.invokevirtual 226, 3) := by decide +kernel
theorem dX2_leadsTo_38 : decode cX2_leadsTo 38 = .ok (.ifCond .eq 18, 3) := by decide +kernel
theorem dX2_leadsTo_41 : decode cX2_leadsTo 41 = .ok (.aload_n 0, 1) := by decide +kernel
theorem dX2_leadsTo_42 : decode cX2_leadsTo 42 = .ok (.iload_n 1, 1) := by decide +kernel
theorem dX2_leadsTo_43 : decode cX2_leadsTo 43 = .ok (.iload 4, 2) := by decide +kernel
theorem dX2_leadsTo_45 : decode cX2_leadsTo 45 = .ok (.iload_n 3, 1) := by decide +kernel
theorem dX2_leadsTo_46 : decode cX2_leadsTo 46 = .ok (.iconst 1, 1) := by decide +kernel
theorem dX2_leadsTo_47 : decode cX2_leadsTo 47 = .ok (.iadd, 1) := by decide +kernel
theorem dX2_leadsTo_48 : decode cX2_leadsTo 48 = .ok (.invokevirtual 229, 3) := by decide +kernel
theorem dX2_leadsTo_51 : decode cX2_leadsTo 51 = .ok (.ifCond .eq 5, 3) := by decide +kernel
theorem dX2_leadsTo_54 : decode cX2_leadsTo 54 = .ok (.iconst 1, 1) := by decide +kernel
theorem dX2_leadsTo_55 : decode cX2_leadsTo 55 = .ok (.ireturn, 1) := by decide +kernel
theorem dX2_leadsTo_56 : decode cX2_leadsTo 56 = .ok (.iinc 4 1, 3) := by decide +kernel
theorem dX2_leadsTo_59 : decode cX2_leadsTo 59 = .ok (.goto (-37), 3) := by decide +kernel
theorem dX2_leadsTo_62 : decode cX2_leadsTo 62 = .ok (.iconst 0, 1) := by decide +kernel
theorem dX2_leadsTo_63 : decode cX2_leadsTo 63 = .ok (.ireturn, 1) := by decide +kernel
set_option maxRecDepth 20000 in
theorem ggX2_activeIn_X2_isActive : GoodIn wsX2_activeIn wsX2_isActive := goodIn_r _ [6, 7, 8, 9, 5, 10, 44, 45, 46, 47, 48, 49, 50, 51, 52, 53, 54, 55, 56, 57, 58, 59] (by decide +kernel) (by decide +kernel)
set_option maxRecDepth 20000 in
theorem gX2_activeIn_X2_isActive : GoodIn wsX2_activeIn (wsV RX2 88 RX2 yX2_isActive wsX2_isActive) := goodIn_app (goodIn_of _ (by decide +kernel)) ggX2_activeIn_X2_isActive
set_option maxRecDepth 20000 in
theorem ggX2_activeIn_X2_groupsOf : GoodIn wsX2_activeIn wsX2_groupsOf := goodIn_ca (goodIn_r _ [14, 15, 16, 17, 18, 5, 19, 20, 21, 22, 23, 24, 25, 26, 27, 28, 29, 30, 31, 32, 33, 34, 8, 9, 10, 35, 36, 37, 38, 39, 40, 41, 42, 43, 44, 45, 46, 47, 48, 49, 50, 51, 52, 53, 54, 55, 56, 57, 58, 59, 60, 61] (by decide +kernel) (by decide +kernel)) (goodIn_sub (fun _ h => List.mem_cons_of_mem _ (List.mem_append_right _ h)) (by decide +kernel))
set_option maxRecDepth 20000 in
theorem gX2_activeIn_X2_groupsOf : GoodIn wsX2_activeIn (wsV RX2 120 RX2 yX2_groupsOf wsX2_groupsOf) := goodIn_app (goodIn_of _ (by decide +kernel)) ggX2_activeIn_X2_groupsOf
set_option maxRecDepth 20000 in
theorem ggX2_activeIn_X2_contains : GoodIn wsX2_activeIn wsX2_contains := goodIn_r _ [10] (by decide +kernel) (by decide +kernel)
set_option maxRecDepth 20000 in
theorem gX2_activeIn_X2_contains : GoodIn wsX2_activeIn (va_wsS RX2 106 yX2_contains wsX2_contains) := goodIn_app (goodIn_of _ (by decide +kernel)) ggX2_activeIn_X2_contains
theorem dX2_activeIn_0 : decode cX2_activeIn 0 = .ok (.iconst 0, 1) := by decide +kernel
theorem dX2_activeIn_1 : decode cX2_activeIn 1 = .ok (.istore_n 2, 1) := by decide +kernel
theorem dX2_activeIn_2 : decode cX2_activeIn 2 = .ok (.iconst 0, 1) := by decide +kernel
theorem dX2_activeIn_3 : decode cX2_activeIn 3 = .ok (.istore_n 3, 1) := by decide +kernel
theorem dX2_activeIn_4 : decode cX2_activeIn 4 = .ok (.iload_n 3, 1) := by decide +kernel
theorem dX2_activeIn_5 : decode cX2_activeIn 5 = .ok (.aload_n 0, 1) := by decide +kernel
theorem dX2_activeIn_6 : decode cX2_activeIn 6 = .ok (.getfield 43, 3) := by decide +kernel
theorem dX2_activeIn_9 : decode cX2_activeIn 9 = .ok (.if_icmp .ge 32, 3) := by decide +kernel
theorem dX2_activeIn_12 : decode cX2_activeIn 12 = .ok (.aload_n 0, 1) := by decide +kernel
theorem dX2_activeIn_13 : decode cX2_activeIn 13 = .ok (.iload_n 3, 1) := by decide +kernel
theorem dX2_activeIn_14 : decode cX2_activeIn 14 = .ok (.invokevirtual 88, 3) := by decide +kernel
theorem dX2_activeIn_17 : decode cX2_activeIn 17 = .ok (.ifCond .eq 18, 3) := by decide +kernel
theorem dX2_activeIn_20 : decode cX2_activeIn 20 = .ok (.aload_n 0, 1) := by decide +kernel
theorem dX2_activeIn_21 : decode cX2_activeIn 21 = .ok (.iload_n 3, 1) := by decide +kernel
theorem dX2_activeIn_22 : decode cX2_activeIn 22 = .ok (.invokevirtual 120, 3) := by decide +kernel
theorem dX2_activeIn_25 : decode cX2_activeIn 25 = .ok (.iload_n 1, 1) := by decide +kernel
theorem dX2_activeIn_26 : decode cX2_activeIn 26 = .ok (.invokestatic 106, 3) := by decide +kernel
theorem dX2_activeIn_29 : decode cX2_activeIn 29 = .ok (.ifCond .eq 6, 3) := by decide +kernel
theorem dX2_activeIn_32 : decode cX2_activeIn 32 = .ok (.iinc 2 1, 3) := by decide +kernel
theorem dX2_activeIn_35 : decode cX2_activeIn 35 = .ok (.iinc 3 1, 3) := by decide +kernel
theorem dX2_activeIn_38 : decode cX2_activeIn 38 = .ok (.goto (-34), 3) := by decide +kernel
theorem dX2_activeIn_41 : decode cX2_activeIn 41 = .ok (.iload_n 2, 1) := by decide +kernel
theorem dX2_activeIn_42 : decode cX2_activeIn 42 = .ok (.ireturn, 1) := by decide +kernel
set_option maxRecDepth 20000 in
theorem ggX2_isHeld_X2_contains : GoodIn wsX2_isHeld wsX2_contains := goodIn_r _ [5] (by decide +kernel) (by decide +kernel)
set_option maxRecDepth 20000 in
theorem gX2_isHeld_X2_contains : GoodIn wsX2_isHeld (va_wsS RX2 106 yX2_contains wsX2_contains) := goodIn_app (goodIn_of _ (by decide +kernel)) ggX2_isHeld_X2_contains
theorem dX2_isHeld_0 : decode cX2_isHeld 0 = .ok (.aload_n 0, 1) := by decide +kernel
theorem dX2_isHeld_1 : decode cX2_isHeld 1 = .ok (.getfield 172, 3) := by decide +kernel
theorem dX2_isHeld_4 : decode cX2_isHeld 4 = .ok (.iload_n 1, 1) := by decide +kernel
theorem dX2_isHeld_5 : decode cX2_isHeld 5 = .ok (.invokestatic 106, 3) := by decide +kernel
theorem dX2_isHeld_8 : decode cX2_isHeld 8 = .ok (.ireturn, 1) := by decide +kernel
set_option maxRecDepth 20000 in
theorem ggX2_sharesOf_X0_filled : GoodIn wsX2_sharesOf wsX0_filled := goodIn_ca (goodIn_r _ [7, 8, 9, 10, 11, 6, 12, 13, 30, 31] (by decide +kernel) (by decide +kernel)) (goodIn_sub (fun _ h => List.mem_cons_of_mem _ (List.mem_append_right _ h)) (by decide +kernel))
set_option maxRecDepth 20000 in
theorem gX2_sharesOf_X0_filled : GoodIn wsX2_sharesOf (wsV RX2 100 RX0 yX0_filled wsX0_filled) := goodIn_app (goodIn_of _ (by decide +kernel)) ggX2_sharesOf_X0_filled
theorem dX2_sharesOf_0 : decode cX2_sharesOf 0 = .ok (.aload_n 0, 1) := by decide +kernel
theorem dX2_sharesOf_1 : decode cX2_sharesOf 1 = .ok (.getfield 37, 3) := by decide +kernel
theorem dX2_sharesOf_4 : decode cX2_sharesOf 4 = .ok (.iload_n 1, 1) := by decide +kernel
theorem dX2_sharesOf_5 : decode cX2_sharesOf 5 = .ok (.invokevirtual 100, 3) := by decide +kernel
theorem dX2_sharesOf_8 : decode cX2_sharesOf 8 = .ok (.aload_n 0, 1) := by decide +kernel
theorem dX2_sharesOf_9 : decode cX2_sharesOf 9 = .ok (.getfield 40, 3) := by decide +kernel
theorem dX2_sharesOf_12 : decode cX2_sharesOf 12 = .ok (.iload_n 1, 1) := by decide +kernel
theorem dX2_sharesOf_13 : decode cX2_sharesOf 13 = .ok (.invokevirtual 100, 3) := by decide +kernel
theorem dX2_sharesOf_16 : decode cX2_sharesOf 16 = .ok (.iadd, 1) := by decide +kernel
theorem dX2_sharesOf_17 : decode cX2_sharesOf 17 = .ok (.ireturn, 1) := by decide +kernel
set_option maxRecDepth 20000 in
theorem ggX2_giverTo_X2_contains : GoodIn wsX2_giverTo wsX2_contains := goodIn_r _ [6] (by decide +kernel) (by decide +kernel)
set_option maxRecDepth 20000 in
theorem gX2_giverTo_X2_contains : GoodIn wsX2_giverTo (va_wsS RX2 106 yX2_contains wsX2_contains) := goodIn_app (goodIn_of _ (by decide +kernel)) ggX2_giverTo_X2_contains
set_option maxRecDepth 20000 in
theorem ggX2_giverTo_X1_at : GoodIn wsX2_giverTo wsX1_at := goodIn_ca (goodIn_r _ [11, 12, 13, 30, 31] (by decide +kernel) (by decide +kernel)) (goodIn_sub (fun _ h => List.mem_cons_of_mem _ (List.mem_append_right _ h)) (by decide +kernel))
set_option maxRecDepth 20000 in
theorem gX2_giverTo_X1_at : GoodIn wsX2_giverTo (wsV RX2 70 RX1 yX1_at wsX1_at) := goodIn_app (goodIn_of _ (by decide +kernel)) ggX2_giverTo_X1_at
theorem dX2_giverTo_0 : decode cX2_giverTo 0 = .ok (.aload_n 0, 1) := by decide +kernel
theorem dX2_giverTo_1 : decode cX2_giverTo 1 = .ok (.getfield 140, 3) := by decide +kernel
theorem dX2_giverTo_4 : decode cX2_giverTo 4 = .ok (.iload_n 1, 1) := by decide +kernel
theorem dX2_giverTo_5 : decode cX2_giverTo 5 = .ok (.invokestatic 106, 3) := by decide +kernel
theorem dX2_giverTo_8 : decode cX2_giverTo 8 = .ok (.ifCond .eq 7, 3) := by decide +kernel
theorem dX2_giverTo_11 : decode cX2_giverTo 11 = .ok (.iconst (-1), 1) := by decide +kernel
theorem dX2_giverTo_12 : decode cX2_giverTo 12 = .ok (.goto 11, 3) := by decide +kernel
theorem dX2_giverTo_15 : decode cX2_giverTo 15 = .ok (.aload_n 0, 1) := by decide +kernel
theorem dX2_giverTo_16 : decode cX2_giverTo 16 = .ok (.getfield 21, 3) := by decide +kernel
theorem dX2_giverTo_19 : decode cX2_giverTo 19 = .ok (.iload_n 1, 1) := by decide +kernel
theorem dX2_giverTo_20 : decode cX2_giverTo 20 = .ok (.invokevirtual 70, 3) := by decide +kernel
theorem dX2_giverTo_23 : decode cX2_giverTo 23 = .ok (.ireturn, 1) := by decide +kernel
set_option maxRecDepth 20000 in
theorem ggX2_rightAmong_X2_isActive : GoodIn wsX2_rightAmong wsX2_isActive := goodIn_r _ [10, 11, 12, 13, 9, 14, 42, 43, 44, 45, 46, 47, 48, 49, 50, 51, 52, 53, 54, 55, 56, 57] (by decide +kernel) (by decide +kernel)
set_option maxRecDepth 20000 in
theorem gX2_rightAmong_X2_isActive : GoodIn wsX2_rightAmong (wsV RX2 88 RX2 yX2_isActive wsX2_isActive) := goodIn_app (goodIn_of _ (by decide +kernel)) ggX2_rightAmong_X2_isActive
set_option maxRecDepth 20000 in
theorem ggX2_rightAmong_X1_at : GoodIn wsX2_rightAmong wsX1_at := goodIn_ca (goodIn_r _ [19, 20, 21, 58, 59] (by decide +kernel) (by decide +kernel)) (goodIn_sub (fun _ h => List.mem_cons_of_mem _ (List.mem_append_right _ h)) (by decide +kernel))
set_option maxRecDepth 20000 in
theorem gX2_rightAmong_X1_at : GoodIn wsX2_rightAmong (wsV RX2 70 RX1 yX1_at wsX1_at) := goodIn_app (goodIn_of _ (by decide +kernel)) ggX2_rightAmong_X1_at
set_option maxRecDepth 20000 in
theorem ggX2_rightAmong_X2_bestShareAmong : GoodIn wsX2_rightAmong wsX2_bestShareAmong := goodIn_ca (goodIn_r _ [25, 26, 27, 28, 2, 3, 4, 5, 29, 30, 31, 32, 33, 34, 35, 12, 13, 9, 14, 42, 43, 44, 45, 46, 47, 48, 49, 50, 51, 52, 53, 54, 55, 56, 57, 60, 61] (by decide +kernel) (by decide +kernel)) (goodIn_sub (fun _ h => List.mem_cons_of_mem _ (List.mem_append_right _ h)) (by decide +kernel))
set_option maxRecDepth 20000 in
theorem gX2_rightAmong_X2_bestShareAmong : GoodIn wsX2_rightAmong (wsV RX2 233 RX2 yX2_bestShareAmong wsX2_bestShareAmong) := goodIn_app (goodIn_of _ (by decide +kernel)) ggX2_rightAmong_X2_bestShareAmong
set_option maxRecDepth 20000 in
theorem ggX2_rightAmong_X2_giverTo : GoodIn wsX2_rightAmong wsX2_giverTo := goodIn_ca (goodIn_r _ [39, 40, 41, 12, 13, 9, 14, 15, 16, 17, 18, 19, 20, 21, 42, 43, 44, 45, 46, 47, 48, 49, 50, 51, 52, 53, 54, 55, 56, 57, 58, 59] (by decide +kernel) (by decide +kernel)) (goodIn_sub (fun _ h => List.mem_cons_of_mem _ (List.mem_append_right _ h)) (by decide +kernel))
set_option maxRecDepth 20000 in
theorem gX2_rightAmong_X2_giverTo : GoodIn wsX2_rightAmong (wsV RX2 241 RX2 yX2_giverTo wsX2_giverTo) := goodIn_app (goodIn_of _ (by decide +kernel)) ggX2_rightAmong_X2_giverTo
theorem dX2_rightAmong_0 : decode cX2_rightAmong 0 = .ok (.aload_n 0, 1) := by decide +kernel
theorem dX2_rightAmong_1 : decode cX2_rightAmong 1 = .ok (.iload_n 1, 1) := by decide +kernel
theorem dX2_rightAmong_2 : decode cX2_rightAmong 2 = .ok (.invokevirtual 88, 3) := by decide +kernel
theorem dX2_rightAmong_5 : decode cX2_rightAmong 5 = .ok (.ifCond .ne 5, 3) := by decide +kernel
theorem dX2_rightAmong_8 : decode cX2_rightAmong 8 = .ok (.iconst 0, 1) := by decide +kernel
theorem dX2_rightAmong_9 : decode cX2_rightAmong 9 = .ok (.ireturn, 1) := by decide +kernel
theorem dX2_rightAmong_10 : decode cX2_rightAmong 10 = .ok (.aload_n 0, 1) := by decide +kernel
theorem dX2_rightAmong_11 : decode cX2_rightAmong 11 = .ok (.getfield 18, 3) := by decide +kernel
theorem dX2_rightAmong_14 : decode cX2_rightAmong 14 = .ok (.iload_n 3, 1) := by decide +kernel
theorem dX2_rightAmong_15 : decode cX2_rightAmong 15 = .ok (.invokevirtual 70, 3) := by decide +kernel
theorem dX2_rightAmong_18 : decode cX2_rightAmong 18 = .ok (.iload_n 1, 1) := by decide +kernel
theorem dX2_rightAmong_19 : decode cX2_rightAmong 19 = .ok (.if_icmp .ne 5, 3) := by decide +kernel
theorem dX2_rightAmong_22 : decode cX2_rightAmong 22 = .ok (.iconst 3, 1) := by decide +kernel
theorem dX2_rightAmong_23 : decode cX2_rightAmong 23 = .ok (.ireturn, 1) := by decide +kernel
theorem dX2_rightAmong_24 : decode cX2_rightAmong 24 = .ok (.iconst 0, 1) := by decide +kernel
theorem dX2_rightAmong_25 : decode cX2_rightAmong 25 = .ok (.istore 4, 2) := by decide +kernel
theorem dX2_rightAmong_27 : decode cX2_rightAmong 27 = .ok (.iload_n 3, 1) := by decide +kernel
theorem dX2_rightAmong_28 : decode cX2_rightAmong 28 = .ok (.istore 5, 2) := by decide +kernel
theorem dX2_rightAmong_30 : decode cX2_rightAmong 30 = .ok (.iconst 0, 1) := by decide +kernel
theorem dX2_rightAmong_31 : decode cX2_rightAmong 31 = .ok (.istore 6, 2) := by decide +kernel
theorem dX2_rightAmong_33 : decode cX2_rightAmong 33 = .ok (.iload 6, 2) := by decide +kernel
theorem dX2_rightAmong_35 : decode cX2_rightAmong 35 = .ok (.bipush 12, 2) := by decide +kernel
theorem dX2_rightAmong_37 : decode cX2_rightAmong 37 = .ok (.if_icmp .ge 38, 3) := by decide +kernel
theorem dX2_rightAmong_40 : decode cX2_rightAmong 40 = .ok (.iload 5, 2) := by decide +kernel
theorem dX2_rightAmong_42 : decode cX2_rightAmong 42 = .ok (.iconst (-1), 1) := by decide +kernel
theorem dX2_rightAmong_43 : decode cX2_rightAmong 43 = .ok (.if_icmp .eq 32, 3) := by decide +kernel
theorem dX2_rightAmong_46 : decode cX2_rightAmong 46 = .ok (.iload 4, 2) := by decide +kernel
theorem dX2_rightAmong_48 : decode cX2_rightAmong 48 = .ok (.aload_n 0, 1) := by decide +kernel
theorem dX2_rightAmong_49 : decode cX2_rightAmong 49 = .ok (.iload_n 1, 1) := by decide +kernel
theorem dX2_rightAmong_50 : decode cX2_rightAmong 50 = .ok (.iload_n 2, 1) := by decide +kernel
theorem dX2_rightAmong_51 : decode cX2_rightAmong 51 = .ok (.iload 5, 2) := by decide +kernel
theorem dX2_rightAmong_53 : decode cX2_rightAmong 53 = .ok (.invokevirtual 233, 3) := by decide +kernel
theorem dX2_rightAmong_56 : decode cX2_rightAmong 56 = .ok (.invokestatic 236, 3) := by decide +kernel
theorem dX2_rightAmong_59 : decode cX2_rightAmong 59 = .ok (.istore 4, 2) := by decide +kernel
theorem dX2_rightAmong_61 : decode cX2_rightAmong 61 = .ok (.aload_n 0, 1) := by decide +kernel
theorem dX2_rightAmong_62 : decode cX2_rightAmong 62 = .ok (.iload 5, 2) := by decide +kernel
theorem dX2_rightAmong_64 : decode cX2_rightAmong 64 = .ok (.invokevirtual 241, 3) := by decide +kernel
theorem dX2_rightAmong_67 : decode cX2_rightAmong 67 = .ok (.istore 5, 2) := by decide +kernel
theorem dX2_rightAmong_69 : decode cX2_rightAmong 69 = .ok (.iinc 6 1, 3) := by decide +kernel
theorem dX2_rightAmong_72 : decode cX2_rightAmong 72 = .ok (.goto (-39), 3) := by decide +kernel
theorem dX2_rightAmong_75 : decode cX2_rightAmong 75 = .ok (.iload 4, 2) := by decide +kernel
theorem dX2_rightAmong_77 : decode cX2_rightAmong 77 = .ok (.ireturn, 1) := by decide +kernel
set_option maxRecDepth 20000 in
theorem ggX2_bestShareAmong_X0_at : GoodIn wsX2_bestShareAmong wsX0_at := goodIn_ca (goodIn_r _ [12, 13, 14, 35, 36] (by decide +kernel) (by decide +kernel)) (goodIn_sub (fun _ h => List.mem_cons_of_mem _ (List.mem_append_right _ h)) (by decide +kernel))
set_option maxRecDepth 20000 in
theorem gX2_bestShareAmong_X0_at : GoodIn wsX2_bestShareAmong (wsV RX2 221 RX0 yX0_at wsX0_at) := goodIn_app (goodIn_of _ (by decide +kernel)) ggX2_bestShareAmong_X0_at
set_option maxRecDepth 20000 in
theorem ggX2_bestShareAmong_X2_contains : GoodIn wsX2_bestShareAmong wsX2_contains := goodIn_r _ [18] (by decide +kernel) (by decide +kernel)
set_option maxRecDepth 20000 in
theorem gX2_bestShareAmong_X2_contains : GoodIn wsX2_bestShareAmong (va_wsS RX2 106 yX2_contains wsX2_contains) := goodIn_app (goodIn_of _ (by decide +kernel)) ggX2_bestShareAmong_X2_contains
theorem dX2_bestShareAmong_0 : decode cX2_bestShareAmong 0 = .ok (.aload_n 0, 1) := by decide +kernel
theorem dX2_bestShareAmong_1 : decode cX2_bestShareAmong 1 = .ok (.getfield 37, 3) := by decide +kernel
theorem dX2_bestShareAmong_4 : decode cX2_bestShareAmong 4 = .ok (.iload_n 3, 1) := by decide +kernel
theorem dX2_bestShareAmong_5 : decode cX2_bestShareAmong 5 = .ok (.iload_n 1, 1) := by decide +kernel
theorem dX2_bestShareAmong_6 : decode cX2_bestShareAmong 6 = .ok (.invokevirtual 221, 3) := by decide +kernel
theorem dX2_bestShareAmong_9 : decode cX2_bestShareAmong 9 = .ok (.istore 4, 2) := by decide +kernel
theorem dX2_bestShareAmong_11 : decode cX2_bestShareAmong 11 = .ok (.iconst 0, 1) := by decide +kernel
theorem dX2_bestShareAmong_12 : decode cX2_bestShareAmong 12 = .ok (.istore 5, 2) := by decide +kernel
theorem dX2_bestShareAmong_14 : decode cX2_bestShareAmong 14 = .ok (.iload 5, 2) := by decide +kernel
theorem dX2_bestShareAmong_16 : decode cX2_bestShareAmong 16 = .ok (.aload_n 0, 1) := by decide +kernel
theorem dX2_bestShareAmong_17 : decode cX2_bestShareAmong 17 = .ok (.getfield 77, 3) := by decide +kernel
theorem dX2_bestShareAmong_20 : decode cX2_bestShareAmong 20 = .ok (.if_icmp .ge 35, 3) := by decide +kernel
theorem dX2_bestShareAmong_23 : decode cX2_bestShareAmong 23 = .ok (.iload_n 2, 1) := by decide +kernel
theorem dX2_bestShareAmong_24 : decode cX2_bestShareAmong 24 = .ok (.iload 5, 2) := by decide +kernel
theorem dX2_bestShareAmong_26 : decode cX2_bestShareAmong 26 = .ok (.invokestatic 106, 3) := by decide +kernel
theorem dX2_bestShareAmong_29 : decode cX2_bestShareAmong 29 = .ok (.ifCond .eq 20, 3) := by decide +kernel
theorem dX2_bestShareAmong_32 : decode cX2_bestShareAmong 32 = .ok (.iload 4, 2) := by decide +kernel
theorem dX2_bestShareAmong_34 : decode cX2_bestShareAmong 34 = .ok (.aload_n 0, 1) := by decide +kernel
theorem dX2_bestShareAmong_35 : decode cX2_bestShareAmong 35 = .ok (.getfield 40, 3) := by decide +kernel
theorem dX2_bestShareAmong_38 : decode cX2_bestShareAmong 38 = .ok (.iload_n 3, 1) := by decide +kernel
theorem dX2_bestShareAmong_39 : decode cX2_bestShareAmong 39 = .ok (.iload 5, 2) := by decide +kernel
theorem dX2_bestShareAmong_41 : decode cX2_bestShareAmong 41 = .ok (.invokevirtual 221, 3) := by decide +kernel
theorem dX2_bestShareAmong_44 : decode cX2_bestShareAmong 44 = .ok (.invokestatic 236, 3) := by decide +kernel
theorem dX2_bestShareAmong_47 : decode cX2_bestShareAmong 47 = .ok (.istore 4, 2) := by decide +kernel
theorem dX2_bestShareAmong_49 : decode cX2_bestShareAmong 49 = .ok (.iinc 5 1, 3) := by decide +kernel
theorem dX2_bestShareAmong_52 : decode cX2_bestShareAmong 52 = .ok (.goto (-38), 3) := by decide +kernel
theorem dX2_bestShareAmong_55 : decode cX2_bestShareAmong 55 = .ok (.iload 4, 2) := by decide +kernel
theorem dX2_bestShareAmong_57 : decode cX2_bestShareAmong 57 = .ok (.ireturn, 1) := by decide +kernel
set_option maxRecDepth 20000 in
theorem ggX2_bestHandedByWalking_X2_giverTo : GoodIn wsX2_bestHandedByWalking wsX2_giverTo := goodIn_ca (goodIn_r _ [9, 10, 11, 12, 13, 8, 14, 15, 16, 17, 18, 19, 20, 21, 53, 54, 55, 56, 57, 58, 59, 60, 61, 62, 63, 64, 65, 66, 67, 68, 69, 70] (by decide +kernel) (by decide +kernel)) (goodIn_sub (fun _ h => List.mem_cons_of_mem _ (List.mem_append_right _ h)) (by decide +kernel))
set_option maxRecDepth 20000 in
theorem gX2_bestHandedByWalking_X2_giverTo : GoodIn wsX2_bestHandedByWalking (wsV RX2 241 RX2 yX2_giverTo wsX2_giverTo) := goodIn_app (goodIn_of _ (by decide +kernel)) ggX2_bestHandedByWalking_X2_giverTo
set_option maxRecDepth 20000 in
theorem ggX2_bestHandedByWalking_X2_bestHandedByWalking : GoodIn wsX2_bestHandedByWalking wsX2_bestHandedByWalking := goodIn_ca (goodIn_r _ [0, 1, 2, 3, 4, 5, 6, 7, 8, 9, 10, 11, 12, 13, 14, 15, 16, 17, 18, 19, 20, 21, 22, 23, 24, 25, 26, 27, 28, 29, 30, 31, 32, 33, 34, 35, 36, 37, 38, 39, 40, 41, 42, 43, 44, 45, 46, 47, 48, 49, 50, 51, 52, 53, 54, 55, 56, 57, 58, 59, 60, 61, 62, 63, 64, 65, 66, 67, 68, 69, 70, 71, 72] (by decide +kernel) (by decide +kernel)) (goodIn_sub (fun _ h => List.mem_cons_of_mem _ (List.mem_append_right _ h)) (by decide +kernel))
set_option maxRecDepth 20000 in
theorem gX2_bestHandedByWalking_X2_bestHandedByWalking : GoodIn wsX2_bestHandedByWalking (wsV RX2 150 RX2 yX2_bestHandedByWalking wsX2_bestHandedByWalking) := goodIn_app (goodIn_of _ (by decide +kernel)) ggX2_bestHandedByWalking_X2_bestHandedByWalking
set_option maxRecDepth 20000 in
theorem ggX2_bestHandedByWalking_X2_bestShareByWalking : GoodIn wsX2_bestHandedByWalking wsX2_bestShareByWalking := goodIn_ca (goodIn_r _ [28, 29, 30, 31, 32, 33, 34, 35, 36, 37, 38, 39, 40, 41, 8, 42, 43, 44, 45, 46, 47, 48, 49, 50, 51, 52, 53, 54, 55, 56, 57, 58, 59, 60, 61, 62, 63, 64, 65, 66, 67, 68, 71, 72] (by decide +kernel) (by decide +kernel)) (goodIn_sub (fun _ h => List.mem_cons_of_mem _ (List.mem_append_right _ h)) (by decide +kernel))
set_option maxRecDepth 20000 in
theorem gX2_bestHandedByWalking_X2_bestShareByWalking : GoodIn wsX2_bestHandedByWalking (wsV RX2 244 RX2 yX2_bestShareByWalking wsX2_bestShareByWalking) := goodIn_app (goodIn_of _ (by decide +kernel)) ggX2_bestHandedByWalking_X2_bestShareByWalking
theorem dX2_bestHandedByWalking_0 : decode cX2_bestHandedByWalking 0 = .ok (.iload_n 2, 1) := by decide +kernel
theorem dX2_bestHandedByWalking_1 : decode cX2_bestHandedByWalking 1 = .ok (.iconst (-1), 1) := by decide +kernel
theorem dX2_bestHandedByWalking_2 : decode cX2_bestHandedByWalking 2 = .ok (.if_icmp .eq 9, 3) := by decide +kernel
theorem dX2_bestHandedByWalking_5 : decode cX2_bestHandedByWalking 5 = .ok (.iload_n 3, 1) := by decide +kernel
theorem dX2_bestHandedByWalking_6 : decode cX2_bestHandedByWalking 6 = .ok (.bipush 12, 2) := by decide +kernel
theorem dX2_bestHandedByWalking_8 : decode cX2_bestHandedByWalking 8 = .ok (.if_icmp .lt 5, 3) := by decide +kernel
theorem dX2_bestHandedByWalking_11 : decode cX2_bestHandedByWalking 11 = .ok (.iconst 0, 1) := by decide +kernel
theorem dX2_bestHandedByWalking_12 : decode cX2_bestHandedByWalking 12 = .ok (.ireturn, 1) := by decide +kernel
theorem dX2_bestHandedByWalking_13 : decode cX2_bestHandedByWalking 13 = .ok (.aload_n 0, 1) := by decide +kernel
theorem dX2_bestHandedByWalking_14 : decode cX2_bestHandedByWalking 14 = .ok (.iload_n 1, 1) := by decide +kernel
theorem dX2_bestHandedByWalking_15 : decode cX2_bestHandedByWalking 15 = .ok (.aload_n 0, 1) := by decide +kernel
theorem dX2_bestHandedByWalking_16 : decode cX2_bestHandedByWalking 16 = .ok (.iload_n 2, 1) := by decide +kernel
theorem dX2_bestHandedByWalking_17 : decode cX2_bestHandedByWalking 17 = .ok (.invokevirtual 241, 3) := by decide +kernel
theorem dX2_bestHandedByWalking_20 : decode cX2_bestHandedByWalking 20 = .ok (.iload_n 3, 1) := by decide +kernel
theorem dX2_bestHandedByWalking_21 : decode cX2_bestHandedByWalking 21 = .ok (.iconst 1, 1) := by decide +kernel
theorem dX2_bestHandedByWalking_22 : decode cX2_bestHandedByWalking 22 = .ok (.iadd, 1) := by decide +kernel
theorem dX2_bestHandedByWalking_23 : decode cX2_bestHandedByWalking 23 = .ok (.invokevirtual 150, 3) := by decide +kernel
theorem dX2_bestHandedByWalking_26 : decode cX2_bestHandedByWalking 26 = .ok (.istore 4, 2) := by decide +kernel
theorem dX2_bestHandedByWalking_28 : decode cX2_bestHandedByWalking 28 = .ok (.iload 4, 2) := by decide +kernel
theorem dX2_bestHandedByWalking_30 : decode cX2_bestHandedByWalking 30 = .ok (.aload_n 0, 1) := by decide +kernel
theorem dX2_bestHandedByWalking_31 : decode cX2_bestHandedByWalking 31 = .ok (.iload_n 1, 1) := by decide +kernel
theorem dX2_bestHandedByWalking_32 : decode cX2_bestHandedByWalking 32 = .ok (.iload_n 2, 1) := by decide +kernel
theorem dX2_bestHandedByWalking_33 : decode cX2_bestHandedByWalking 33 = .ok (.invokevirtual 244, 3) := by decide +kernel
theorem dX2_bestHandedByWalking_36 : decode cX2_bestHandedByWalking 36 = .ok (.invokestatic 236, 3) := by decide +kernel
theorem dX2_bestHandedByWalking_39 : decode cX2_bestHandedByWalking 39 = .ok (.ireturn, 1) := by decide +kernel
set_option maxRecDepth 20000 in
theorem ggX2_bestShareByWalking_X0_at : GoodIn wsX2_bestShareByWalking wsX0_at := goodIn_ca (goodIn_r _ [8, 9, 10, 42, 43] (by decide +kernel) (by decide +kernel)) (goodIn_sub (fun _ h => List.mem_cons_of_mem _ (List.mem_append_right _ h)) (by decide +kernel))
set_option maxRecDepth 20000 in
theorem gX2_bestShareByWalking_X0_at : GoodIn wsX2_bestShareByWalking (wsV RX2 221 RX0 yX0_at wsX0_at) := goodIn_app (goodIn_of _ (by decide +kernel)) ggX2_bestShareByWalking_X0_at
set_option maxRecDepth 20000 in
theorem ggX2_bestShareByWalking_X2_leadsTo : GoodIn wsX2_bestShareByWalking wsX2_leadsTo := goodIn_ca (goodIn_r _ [15, 2, 16, 17, 18, 14, 19, 20, 4, 5, 6, 7, 8, 9, 10, 21, 22, 23, 24, 25, 11, 12, 13, 26, 27, 28, 29, 30, 31, 32, 33, 34, 35, 36, 37, 38, 39, 40, 41, 42, 43] (by decide +kernel) (by decide +kernel)) (goodIn_sub (fun _ h => List.mem_cons_of_mem _ (List.mem_append_right _ h)) (by decide +kernel))
set_option maxRecDepth 20000 in
theorem gX2_bestShareByWalking_X2_leadsTo : GoodIn wsX2_bestShareByWalking (wsV RX2 229 RX2 yX2_leadsTo wsX2_leadsTo) := goodIn_app (goodIn_of _ (by decide +kernel)) ggX2_bestShareByWalking_X2_leadsTo
theorem dX2_bestShareByWalking_0 : decode cX2_bestShareByWalking 0 = .ok (.aload_n 0, 1) := by decide +kernel
theorem dX2_bestShareByWalking_1 : decode cX2_bestShareByWalking 1 = .ok (.getfield 37, 3) := by decide +kernel
theorem dX2_bestShareByWalking_4 : decode cX2_bestShareByWalking 4 = .ok (.iload_n 2, 1) := by decide +kernel
theorem dX2_bestShareByWalking_5 : decode cX2_bestShareByWalking 5 = .ok (.iload_n 1, 1) := by decide +kernel
theorem dX2_bestShareByWalking_6 : decode cX2_bestShareByWalking 6 = .ok (.invokevirtual 221, 3) := by decide +kernel
theorem dX2_bestShareByWalking_9 : decode cX2_bestShareByWalking 9 = .ok (.istore_n 3, 1) := by decide +kernel
theorem dX2_bestShareByWalking_10 : decode cX2_bestShareByWalking 10 = .ok (.iconst 0, 1) := by decide +kernel
theorem dX2_bestShareByWalking_11 : decode cX2_bestShareByWalking 11 = .ok (.istore 4, 2) := by decide +kernel
theorem dX2_bestShareByWalking_13 : decode cX2_bestShareByWalking 13 = .ok (.iload 4, 2) := by decide +kernel
theorem dX2_bestShareByWalking_15 : decode cX2_bestShareByWalking 15 = .ok (.aload_n 0, 1) := by decide +kernel
theorem dX2_bestShareByWalking_16 : decode cX2_bestShareByWalking 16 = .ok (.getfield 77, 3) := by decide +kernel
theorem dX2_bestShareByWalking_19 : decode cX2_bestShareByWalking 19 = .ok (.if_icmp .ge 41, 3) := by decide +kernel
theorem dX2_bestShareByWalking_22 : decode cX2_bestShareByWalking 22 = .ok (.aload_n 0, 1) := by decide +kernel
theorem dX2_bestShareByWalking_23 : decode cX2_bestShareByWalking 23 = .ok (.getfield 40, 3) := by decide +kernel
theorem dX2_bestShareByWalking_26 : decode cX2_bestShareByWalking 26 = .ok (.iload_n 2, 1) := by decide +kernel
theorem dX2_bestShareByWalking_27 : decode cX2_bestShareByWalking 27 = .ok (.iload 4, 2) := by decide +kernel
theorem dX2_bestShareByWalking_29 : decode cX2_bestShareByWalking 29 = .ok (.invokevirtual 221, 3) := by decide +kernel
theorem dX2_bestShareByWalking_32 : decode cX2_bestShareByWalking 32 = .ok (.istore 5, 2) := by decide +kernel
theorem dX2_bestShareByWalking_34 : decode cX2_bestShareByWalking 34 = .ok (.iload 5, 2) := by decide +kernel
theorem dX2_bestShareByWalking_36 : decode cX2_bestShareByWalking 36 = .ok (.iload_n 3, 1) := by decide +kernel
theorem dX2_bestShareByWalking_37 : decode cX2_bestShareByWalking 37 = .ok (.if_icmp .le 17, 3) := by decide +kernel
theorem dX2_bestShareByWalking_40 : decode cX2_bestShareByWalking 40 = .ok (.aload_n 0, 1) := by decide +kernel
theorem dX2_bestShareByWalking_41 : decode cX2_bestShareByWalking 41 = .ok (.iload_n 1, 1) := by decide +kernel
theorem dX2_bestShareByWalking_42 : decode cX2_bestShareByWalking 42 = .ok (.iload 4, 2) := by decide +kernel
theorem dX2_bestShareByWalking_44 : decode cX2_bestShareByWalking 44 = .ok (.iconst 0, 1) := by decide +kernel
theorem dX2_bestShareByWalking_45 : decode cX2_bestShareByWalking 45 = .ok (.invokevirtual 229, 3) := by decide +kernel
theorem dX2_bestShareByWalking_48 : decode cX2_bestShareByWalking 48 = .ok (.ifCond .eq 6, 3) := by decide +kernel
theorem dX2_bestShareByWalking_51 : decode cX2_bestShareByWalking 51 = .ok (.iload 5, 2) := by decide +kernel
theorem dX2_bestShareByWalking_53 : decode cX2_bestShareByWalking 53 = .ok (.istore_n 3, 1) := by decide +kernel
theorem dX2_bestShareByWalking_54 : decode cX2_bestShareByWalking 54 = .ok (.iinc 4 1, 3) := by decide +kernel
theorem dX2_bestShareByWalking_57 : decode cX2_bestShareByWalking 57 = .ok (.goto (-44), 3) := by decide +kernel
theorem dX2_bestShareByWalking_60 : decode cX2_bestShareByWalking 60 = .ok (.iload_n 3, 1) := by decide +kernel
theorem dX2_bestShareByWalking_61 : decode cX2_bestShareByWalking 61 = .ok (.ireturn, 1) := by decide +kernel
set_option maxRecDepth 20000 in
theorem ggX2_openPairs_X2_groupsOf : GoodIn wsX2_openPairs wsX2_groupsOf := goodIn_ca (goodIn_r _ [7, 8, 9, 10, 11, 6, 12, 13, 14, 15, 16, 17, 18, 19, 20, 21, 22, 23, 24, 25, 26, 27, 28, 29, 30, 31, 32, 33, 34, 35, 36, 37, 38, 39, 73, 74, 75, 76, 77, 78, 79, 80, 81, 82, 83, 84, 85, 86, 87, 88, 89, 90] (by decide +kernel) (by decide +kernel)) (goodIn_sub (fun _ h => List.mem_cons_of_mem _ (List.mem_append_right _ h)) (by decide +kernel))
set_option maxRecDepth 20000 in
theorem gX2_openPairs_X2_groupsOf : GoodIn wsX2_openPairs (wsV RX2 120 RX2 yX2_groupsOf wsX2_groupsOf) := goodIn_app (goodIn_of _ (by decide +kernel)) ggX2_openPairs_X2_groupsOf
set_option maxRecDepth 20000 in
theorem ggX2_openPairs_X2_rightAmong : GoodIn wsX2_openPairs wsX2_rightAmong := goodIn_ca (goodIn_r _ [43, 44, 45, 46, 47, 48, 49, 50, 51, 6, 52, 53, 28, 29, 30, 54, 55, 56, 57, 58, 59, 60, 61, 62, 63, 64, 65, 8, 66, 14, 15, 16, 17, 18, 19, 20, 67, 68, 69, 70, 71, 72, 73, 74, 75, 76, 77, 78, 79, 80, 81, 82, 83, 84, 85, 86, 87, 88, 91, 92, 89, 90] (by decide +kernel) (by decide +kernel)) (goodIn_sub (fun _ h => List.mem_cons_of_mem _ (List.mem_append_right _ h)) (by decide +kernel))
set_option maxRecDepth 20000 in
theorem gX2_openPairs_X2_rightAmong : GoodIn wsX2_openPairs (wsV RX2 146 RX2 yX2_rightAmong wsX2_rightAmong) := goodIn_app (goodIn_of _ (by decide +kernel)) ggX2_openPairs_X2_rightAmong
theorem dX2_openPairs_0 : decode cX2_openPairs 0 = .ok (.iconst 0, 1) := by decide +kernel
theorem dX2_openPairs_1 : decode cX2_openPairs 1 = .ok (.istore_n 1, 1) := by decide +kernel
theorem dX2_openPairs_2 : decode cX2_openPairs 2 = .ok (.iconst 0, 1) := by decide +kernel
theorem dX2_openPairs_3 : decode cX2_openPairs 3 = .ok (.istore_n 2, 1) := by decide +kernel
theorem dX2_openPairs_4 : decode cX2_openPairs 4 = .ok (.iload_n 2, 1) := by decide +kernel
theorem dX2_openPairs_5 : decode cX2_openPairs 5 = .ok (.aload_n 0, 1) := by decide +kernel
theorem dX2_openPairs_6 : decode cX2_openPairs 6 = .ok (.getfield 43, 3) := by decide +kernel
theorem dX2_openPairs_9 : decode cX2_openPairs 9 = .ok (.if_icmp .ge 48, 3) := by decide +kernel
theorem dX2_openPairs_12 : decode cX2_openPairs 12 = .ok (.aload_n 0, 1) := by decide +kernel
theorem dX2_openPairs_13 : decode cX2_openPairs 13 = .ok (.iload_n 2, 1) := by decide +kernel
theorem dX2_openPairs_14 : decode cX2_openPairs 14 = .ok (.invokevirtual 120, 3) := by decide +kernel
theorem dX2_openPairs_17 : decode cX2_openPairs 17 = .ok (.istore_n 3, 1) := by decide +kernel
theorem dX2_openPairs_18 : decode cX2_openPairs 18 = .ok (.iconst 0, 1) := by decide +kernel
theorem dX2_openPairs_19 : decode cX2_openPairs 19 = .ok (.istore 4, 2) := by decide +kernel
theorem dX2_openPairs_21 : decode cX2_openPairs 21 = .ok (.iload 4, 2) := by decide +kernel
theorem dX2_openPairs_23 : decode cX2_openPairs 23 = .ok (.aload_n 0, 1) := by decide +kernel
theorem dX2_openPairs_24 : decode cX2_openPairs 24 = .ok (.getfield 126, 3) := by decide +kernel
theorem dX2_openPairs_27 : decode cX2_openPairs 27 = .ok (.if_icmp .ge 24, 3) := by decide +kernel
theorem dX2_openPairs_30 : decode cX2_openPairs 30 = .ok (.aload_n 0, 1) := by decide +kernel
theorem dX2_openPairs_31 : decode cX2_openPairs 31 = .ok (.iload_n 2, 1) := by decide +kernel
theorem dX2_openPairs_32 : decode cX2_openPairs 32 = .ok (.iload_n 3, 1) := by decide +kernel
theorem dX2_openPairs_33 : decode cX2_openPairs 33 = .ok (.iload 4, 2) := by decide +kernel
theorem dX2_openPairs_35 : decode cX2_openPairs 35 = .ok (.invokevirtual 146, 3) := by decide +kernel
theorem dX2_openPairs_38 : decode cX2_openPairs 38 = .ok (.iconst 1, 1) := by decide +kernel
theorem dX2_openPairs_39 : decode cX2_openPairs 39 = .ok (.if_icmp .lt 6, 3) := by decide +kernel
theorem dX2_openPairs_42 : decode cX2_openPairs 42 = .ok (.iinc 1 1, 3) := by decide +kernel
theorem dX2_openPairs_45 : decode cX2_openPairs 45 = .ok (.iinc 4 1, 3) := by decide +kernel
theorem dX2_openPairs_48 : decode cX2_openPairs 48 = .ok (.goto (-27), 3) := by decide +kernel
theorem dX2_openPairs_51 : decode cX2_openPairs 51 = .ok (.iinc 2 1, 3) := by decide +kernel
theorem dX2_openPairs_54 : decode cX2_openPairs 54 = .ok (.goto (-50), 3) := by decide +kernel
theorem dX2_openPairs_57 : decode cX2_openPairs 57 = .ok (.iload_n 1, 1) := by decide +kernel
theorem dX2_openPairs_58 : decode cX2_openPairs 58 = .ok (.ireturn, 1) := by decide +kernel
set_option maxRecDepth 20000 in
theorem ggX2_handOverFoldersOf_X2_isHandedOverBy : GoodIn wsX2_handOverFoldersOf wsX2_isHandedOverBy := goodIn_ca (goodIn_r _ [7, 2, 8, 9, 10, 11, 12, 13, 14, 15, 16, 17, 6, 18, 19, 20, 21, 22, 46, 47, 48, 49, 50, 51, 52, 53, 54, 55, 56, 57, 58, 59, 60, 61, 62, 63] (by decide +kernel) (by decide +kernel)) (goodIn_sub (fun _ h => List.mem_cons_of_mem _ (List.mem_append_right _ h)) (by decide +kernel))
set_option maxRecDepth 20000 in
theorem gX2_handOverFoldersOf_X2_isHandedOverBy : GoodIn wsX2_handOverFoldersOf (wsV RX2 247 RX2 yX2_isHandedOverBy wsX2_isHandedOverBy) := goodIn_app (goodIn_of _ (by decide +kernel)) ggX2_handOverFoldersOf_X2_isHandedOverBy
set_option maxRecDepth 20000 in
theorem ggX2_handOverFoldersOf_X2_keeperAfterLeaving : GoodIn wsX2_handOverFoldersOf wsX2_keeperAfterLeaving := goodIn_ca (goodIn_r _ [26, 2, 8, 9, 10, 11, 12, 13, 14, 27, 28, 29, 6, 30, 31, 32, 33, 34, 35, 36, 20, 21, 22, 37, 38, 39, 40, 41, 3, 4, 5, 7, 15, 16, 17, 18, 19, 46, 47, 48, 49, 50, 51, 52, 53, 54, 55, 56, 57, 58, 59, 60, 61, 62, 63] (by decide +kernel) (by decide +kernel)) (goodIn_sub (fun _ h => List.mem_cons_of_mem _ (List.mem_append_right _ h)) (by decide +kernel))
set_option maxRecDepth 20000 in
theorem gX2_handOverFoldersOf_X2_keeperAfterLeaving : GoodIn wsX2_handOverFoldersOf (wsV RX2 164 RX2 yX2_keeperAfterLeaving wsX2_keeperAfterLeaving) := goodIn_app (goodIn_of _ (by decide +kernel)) ggX2_handOverFoldersOf_X2_keeperAfterLeaving
set_option maxRecDepth 20000 in
theorem ggX2_handOverFoldersOf_X1_put : GoodIn wsX2_handOverFoldersOf wsX1_put := goodIn_ca (goodIn_r _ [45, 13, 62, 63] (by decide +kernel) (by decide +kernel)) (goodIn_sub (fun _ h => List.mem_cons_of_mem _ (List.mem_append_right _ h)) (by decide +kernel))
set_option maxRecDepth 20000 in
theorem gX2_handOverFoldersOf_X1_put : GoodIn wsX2_handOverFoldersOf (wsV RX2 74 RX1 yX1_put wsX1_put) := goodIn_app (goodIn_of _ (by decide +kernel)) ggX2_handOverFoldersOf_X1_put
theorem dX2_handOverFoldersOf_0 : decode cX2_handOverFoldersOf 0 = .ok (.iconst 0, 1) := by decide +kernel
theorem dX2_handOverFoldersOf_1 : decode cX2_handOverFoldersOf 1 = .ok (.istore_n 2, 1) := by decide +kernel
theorem dX2_handOverFoldersOf_2 : decode cX2_handOverFoldersOf 2 = .ok (.iconst 0, 1) := by decide +kernel
theorem dX2_handOverFoldersOf_3 : decode cX2_handOverFoldersOf 3 = .ok (.istore_n 3, 1) := by decide +kernel
theorem dX2_handOverFoldersOf_4 : decode cX2_handOverFoldersOf 4 = .ok (.iload_n 3, 1) := by decide +kernel
theorem dX2_handOverFoldersOf_5 : decode cX2_handOverFoldersOf 5 = .ok (.aload_n 0, 1) := by decide +kernel
theorem dX2_handOverFoldersOf_6 : decode cX2_handOverFoldersOf 6 = .ok (.getfield 126, 3) := by decide +kernel
theorem dX2_handOverFoldersOf_9 : decode cX2_handOverFoldersOf 9 = .ok (.if_icmp .ge 34, 3) := by decide +kernel
theorem dX2_handOverFoldersOf_12 : decode cX2_handOverFoldersOf 12 = .ok (.aload_n 0, 1) := by decide +kernel
theorem dX2_handOverFoldersOf_13 : decode cX2_handOverFoldersOf 13 = .ok (.iload_n 1, 1) := by decide +kernel
theorem dX2_handOverFoldersOf_14 : decode cX2_handOverFoldersOf 14 = .ok (.iload_n 3, 1) := by decide +kernel
theorem dX2_handOverFoldersOf_15 : decode cX2_handOverFoldersOf 15 = .ok (.invokevirtual 247, 3) := by decide +kernel
theorem dX2_handOverFoldersOf_18 : decode cX2_handOverFoldersOf 18 = .ok (.ifCond .eq 19, 3) := by decide +kernel
theorem dX2_handOverFoldersOf_21 : decode cX2_handOverFoldersOf 21 = .ok (.aload_n 0, 1) := by decide +kernel
theorem dX2_handOverFoldersOf_22 : decode cX2_handOverFoldersOf 22 = .ok (.getfield 18, 3) := by decide +kernel
theorem dX2_handOverFoldersOf_25 : decode cX2_handOverFoldersOf 25 = .ok (.iload_n 3, 1) := by decide +kernel
theorem dX2_handOverFoldersOf_26 : decode cX2_handOverFoldersOf 26 = .ok (.aload_n 0, 1) := by decide +kernel
theorem dX2_handOverFoldersOf_27 : decode cX2_handOverFoldersOf 27 = .ok (.iload_n 3, 1) := by decide +kernel
theorem dX2_handOverFoldersOf_28 : decode cX2_handOverFoldersOf 28 = .ok (.invokevirtual 164, 3) := by decide +kernel
theorem dX2_handOverFoldersOf_31 : decode cX2_handOverFoldersOf 31 = .ok (.invokevirtual 74, 3) := by decide +kernel
theorem dX2_handOverFoldersOf_34 : decode cX2_handOverFoldersOf 34 = .ok (.iinc 2 1, 3) := by decide +kernel
theorem dX2_handOverFoldersOf_37 : decode cX2_handOverFoldersOf 37 = .ok (.iinc 3 1, 3) := by decide +kernel
theorem dX2_handOverFoldersOf_40 : decode cX2_handOverFoldersOf 40 = .ok (.goto (-36), 3) := by decide +kernel
theorem dX2_handOverFoldersOf_43 : decode cX2_handOverFoldersOf 43 = .ok (.iload_n 2, 1) := by decide +kernel
theorem dX2_handOverFoldersOf_44 : decode cX2_handOverFoldersOf 44 = .ok (.ireturn, 1) := by decide +kernel
set_option maxRecDepth 20000 in
theorem ggX2_isHandedOverBy_X1_at : GoodIn wsX2_isHandedOverBy wsX1_at := goodIn_ca (goodIn_r _ [6, 7, 8, 34, 35] (by decide +kernel) (by decide +kernel)) (goodIn_sub (fun _ h => List.mem_cons_of_mem _ (List.mem_append_right _ h)) (by decide +kernel))
set_option maxRecDepth 20000 in
theorem gX2_isHandedOverBy_X1_at : GoodIn wsX2_isHandedOverBy (wsV RX2 70 RX1 yX1_at wsX1_at) := goodIn_app (goodIn_of _ (by decide +kernel)) ggX2_isHandedOverBy_X1_at
set_option maxRecDepth 20000 in
theorem ggX2_isHandedOverBy_X2_isHeld : GoodIn wsX2_isHandedOverBy wsX2_isHeld := goodIn_r _ [13, 14, 15, 16, 12, 17, 18, 19, 20, 21, 22, 23, 24, 25, 26, 27, 28, 29, 30, 31, 32, 33] (by decide +kernel) (by decide +kernel)
set_option maxRecDepth 20000 in
theorem gX2_isHandedOverBy_X2_isHeld : GoodIn wsX2_isHandedOverBy (wsV RX2 180 RX2 yX2_isHeld wsX2_isHeld) := goodIn_app (goodIn_of _ (by decide +kernel)) ggX2_isHandedOverBy_X2_isHeld
theorem dX2_isHandedOverBy_0 : decode cX2_isHandedOverBy 0 = .ok (.aload_n 0, 1) := by decide +kernel
theorem dX2_isHandedOverBy_1 : decode cX2_isHandedOverBy 1 = .ok (.getfield 18, 3) := by decide +kernel
theorem dX2_isHandedOverBy_4 : decode cX2_isHandedOverBy 4 = .ok (.iload_n 2, 1) := by decide +kernel
theorem dX2_isHandedOverBy_5 : decode cX2_isHandedOverBy 5 = .ok (.invokevirtual 70, 3) := by decide +kernel
theorem dX2_isHandedOverBy_8 : decode cX2_isHandedOverBy 8 = .ok (.iload_n 1, 1) := by decide +kernel
theorem dX2_isHandedOverBy_9 : decode cX2_isHandedOverBy 9 = .ok (.if_icmp .ne 15, 3) := by decide +kernel
theorem dX2_isHandedOverBy_12 : decode cX2_isHandedOverBy 12 = .ok (.aload_n 0, 1) := by decide +kernel
theorem dX2_isHandedOverBy_13 : decode cX2_isHandedOverBy 13 = .ok (.iload_n 2, 1) := by decide +kernel
theorem dX2_isHandedOverBy_14 : decode cX2_isHandedOverBy 14 = .ok (.invokevirtual 180, 3) := by decide +kernel
theorem dX2_isHandedOverBy_17 : decode cX2_isHandedOverBy 17 = .ok (.ifCond .ne 7, 3) := by decide +kernel
theorem dX2_isHandedOverBy_20 : decode cX2_isHandedOverBy 20 = .ok (.iconst 1, 1) := by decide +kernel
theorem dX2_isHandedOverBy_21 : decode cX2_isHandedOverBy 21 = .ok (.goto 4, 3) := by decide +kernel
theorem dX2_isHandedOverBy_24 : decode cX2_isHandedOverBy 24 = .ok (.iconst 0, 1) := by decide +kernel
theorem dX2_isHandedOverBy_25 : decode cX2_isHandedOverBy 25 = .ok (.ireturn, 1) := by decide +kernel
set_option maxRecDepth 20000 in
theorem ggX2_keeperAfterLeaving_X1_at : GoodIn wsX2_keeperAfterLeaving wsX1_at := goodIn_ca (goodIn_r _ [6, 7, 8, 53, 54] (by decide +kernel) (by decide +kernel)) (goodIn_sub (fun _ h => List.mem_cons_of_mem _ (List.mem_append_right _ h)) (by decide +kernel))
set_option maxRecDepth 20000 in
theorem gX2_keeperAfterLeaving_X1_at : GoodIn wsX2_keeperAfterLeaving (wsV RX2 70 RX1 yX1_at wsX1_at) := goodIn_app (goodIn_of _ (by decide +kernel)) ggX2_keeperAfterLeaving_X1_at
set_option maxRecDepth 20000 in
theorem ggX2_keeperAfterLeaving_X2_firstActiveHeir : GoodIn wsX2_keeperAfterLeaving wsX2_firstActiveHeir := goodIn_ca (goodIn_r _ [13, 14, 2, 3, 4, 5, 6, 7, 8, 15, 16, 17, 12, 18, 19, 20, 21, 22, 37, 38, 39, 40, 41, 42, 43, 44, 45, 46, 47, 48, 49, 50, 51, 52, 53, 54] (by decide +kernel) (by decide +kernel)) (goodIn_sub (fun _ h => List.mem_cons_of_mem _ (List.mem_append_right _ h)) (by decide +kernel))
set_option maxRecDepth 20000 in
theorem gX2_keeperAfterLeaving_X2_firstActiveHeir : GoodIn wsX2_keeperAfterLeaving (wsV RX2 250 RX2 yX2_firstActiveHeir wsX2_firstActiveHeir) := goodIn_app (goodIn_of _ (by decide +kernel)) ggX2_keeperAfterLeaving_X2_firstActiveHeir
set_option maxRecDepth 20000 in
theorem ggX2_keeperAfterLeaving_X2_ownerAbove : GoodIn wsX2_keeperAfterLeaving wsX2_ownerAbove := goodIn_ca (goodIn_r _ [26, 27, 1, 2, 3, 4, 5, 6, 7, 8, 28, 29, 30, 12, 31, 32, 33, 34, 35, 36, 20, 21, 22, 15, 16, 17, 18, 19, 37, 38, 39, 40, 41, 42, 43, 44, 45, 46, 47, 48, 49, 50, 51, 52, 53, 54] (by decide +kernel) (by decide +kernel)) (goodIn_sub (fun _ h => List.mem_cons_of_mem _ (List.mem_append_right _ h)) (by decide +kernel))
set_option maxRecDepth 20000 in
theorem gX2_keeperAfterLeaving_X2_ownerAbove : GoodIn wsX2_keeperAfterLeaving (wsV RX2 253 RX2 yX2_ownerAbove wsX2_ownerAbove) := goodIn_app (goodIn_of _ (by decide +kernel)) ggX2_keeperAfterLeaving_X2_ownerAbove
theorem dX2_keeperAfterLeaving_0 : decode cX2_keeperAfterLeaving 0 = .ok (.aload_n 0, 1) := by decide +kernel
theorem dX2_keeperAfterLeaving_1 : decode cX2_keeperAfterLeaving 1 = .ok (.getfield 18, 3) := by decide +kernel
theorem dX2_keeperAfterLeaving_4 : decode cX2_keeperAfterLeaving 4 = .ok (.iload_n 1, 1) := by decide +kernel
theorem dX2_keeperAfterLeaving_5 : decode cX2_keeperAfterLeaving 5 = .ok (.invokevirtual 70, 3) := by decide +kernel
theorem dX2_keeperAfterLeaving_8 : decode cX2_keeperAfterLeaving 8 = .ok (.istore_n 2, 1) := by decide +kernel
theorem dX2_keeperAfterLeaving_9 : decode cX2_keeperAfterLeaving 9 = .ok (.aload_n 0, 1) := by decide +kernel
theorem dX2_keeperAfterLeaving_10 : decode cX2_keeperAfterLeaving 10 = .ok (.iload_n 2, 1) := by decide +kernel
theorem dX2_keeperAfterLeaving_11 : decode cX2_keeperAfterLeaving 11 = .ok (.invokevirtual 250, 3) := by decide +kernel
theorem dX2_keeperAfterLeaving_14 : decode cX2_keeperAfterLeaving 14 = .ok (.istore_n 3, 1) := by decide +kernel
theorem dX2_keeperAfterLeaving_15 : decode cX2_keeperAfterLeaving 15 = .ok (.iload_n 3, 1) := by decide +kernel
theorem dX2_keeperAfterLeaving_16 : decode cX2_keeperAfterLeaving 16 = .ok (.iconst (-1), 1) := by decide +kernel
theorem dX2_keeperAfterLeaving_17 : decode cX2_keeperAfterLeaving 17 = .ok (.if_icmp .eq 7, 3) := by decide +kernel
theorem dX2_keeperAfterLeaving_20 : decode cX2_keeperAfterLeaving 20 = .ok (.iload_n 3, 1) := by decide +kernel
theorem dX2_keeperAfterLeaving_21 : decode cX2_keeperAfterLeaving 21 = .ok (.goto 9, 3) := by decide +kernel
theorem dX2_keeperAfterLeaving_24 : decode cX2_keeperAfterLeaving 24 = .ok (.aload_n 0, 1) := by decide +kernel
theorem dX2_keeperAfterLeaving_25 : decode cX2_keeperAfterLeaving 25 = .ok (.iload_n 1, 1) := by decide +kernel
theorem dX2_keeperAfterLeaving_26 : decode cX2_keeperAfterLeaving 26 = .ok (.iload_n 2, 1) := by decide +kernel
theorem dX2_keeperAfterLeaving_27 : decode cX2_keeperAfterLeaving 27 = .ok (.invokevirtual 253, 3) := by decide +kernel
theorem dX2_keeperAfterLeaving_30 : decode cX2_keeperAfterLeaving 30 = .ok (.ireturn, 1) := by decide +kernel
set_option maxRecDepth 20000 in
theorem ggX2_firstActiveHeir_X1_at : GoodIn wsX2_firstActiveHeir wsX1_at := goodIn_ca (goodIn_r _ [6, 7, 8, 34, 35] (by decide +kernel) (by decide +kernel)) (goodIn_sub (fun _ h => List.mem_cons_of_mem _ (List.mem_append_right _ h)) (by decide +kernel))
set_option maxRecDepth 20000 in
theorem gX2_firstActiveHeir_X1_at : GoodIn wsX2_firstActiveHeir (wsV RX2 70 RX1 yX1_at wsX1_at) := goodIn_app (goodIn_of _ (by decide +kernel)) ggX2_firstActiveHeir_X1_at
set_option maxRecDepth 20000 in
theorem ggX2_firstActiveHeir_X2_isActive : GoodIn wsX2_firstActiveHeir wsX2_isActive := goodIn_r _ [13, 14, 15, 16, 12, 17, 18, 19, 20, 21, 22, 23, 24, 25, 26, 27, 28, 29, 30, 31, 32, 33] (by decide +kernel) (by decide +kernel)
set_option maxRecDepth 20000 in
theorem gX2_firstActiveHeir_X2_isActive : GoodIn wsX2_firstActiveHeir (wsV RX2 88 RX2 yX2_isActive wsX2_isActive) := goodIn_app (goodIn_of _ (by decide +kernel)) ggX2_firstActiveHeir_X2_isActive
theorem dX2_firstActiveHeir_0 : decode cX2_firstActiveHeir 0 = .ok (.aload_n 0, 1) := by decide +kernel
theorem dX2_firstActiveHeir_1 : decode cX2_firstActiveHeir 1 = .ok (.getfield 14, 3) := by decide +kernel
theorem dX2_firstActiveHeir_4 : decode cX2_firstActiveHeir 4 = .ok (.iload_n 1, 1) := by decide +kernel
theorem dX2_firstActiveHeir_5 : decode cX2_firstActiveHeir 5 = .ok (.invokevirtual 70, 3) := by decide +kernel
theorem dX2_firstActiveHeir_8 : decode cX2_firstActiveHeir 8 = .ok (.istore_n 2, 1) := by decide +kernel
theorem dX2_firstActiveHeir_9 : decode cX2_firstActiveHeir 9 = .ok (.iconst 0, 1) := by decide +kernel
theorem dX2_firstActiveHeir_10 : decode cX2_firstActiveHeir 10 = .ok (.istore_n 3, 1) := by decide +kernel
theorem dX2_firstActiveHeir_11 : decode cX2_firstActiveHeir 11 = .ok (.iload_n 3, 1) := by decide +kernel
theorem dX2_firstActiveHeir_12 : decode cX2_firstActiveHeir 12 = .ok (.bipush 10, 2) := by decide +kernel
theorem dX2_firstActiveHeir_14 : decode cX2_firstActiveHeir 14 = .ok (.if_icmp .ge 38, 3) := by decide +kernel
theorem dX2_firstActiveHeir_17 : decode cX2_firstActiveHeir 17 = .ok (.iload_n 2, 1) := by decide +kernel
theorem dX2_firstActiveHeir_18 : decode cX2_firstActiveHeir 18 = .ok (.iconst (-1), 1) := by decide +kernel
theorem dX2_firstActiveHeir_19 : decode cX2_firstActiveHeir 19 = .ok (.if_icmp .eq 33, 3) := by decide +kernel
theorem dX2_firstActiveHeir_22 : decode cX2_firstActiveHeir 22 = .ok (.iload_n 2, 1) := by decide +kernel
theorem dX2_firstActiveHeir_23 : decode cX2_firstActiveHeir 23 = .ok (.iload_n 1, 1) := by decide +kernel
theorem dX2_firstActiveHeir_24 : decode cX2_firstActiveHeir 24 = .ok (.if_icmp .eq 13, 3) := by decide +kernel
theorem dX2_firstActiveHeir_27 : decode cX2_firstActiveHeir 27 = .ok (.aload_n 0, 1) := by decide +kernel
theorem dX2_firstActiveHeir_28 : decode cX2_firstActiveHeir 28 = .ok (.iload_n 2, 1) := by decide +kernel
theorem dX2_firstActiveHeir_29 : decode cX2_firstActiveHeir 29 = .ok (.invokevirtual 88, 3) := by decide +kernel
theorem dX2_firstActiveHeir_32 : decode cX2_firstActiveHeir 32 = .ok (.ifCond .eq 5, 3) := by decide +kernel
theorem dX2_firstActiveHeir_35 : decode cX2_firstActiveHeir 35 = .ok (.iload_n 2, 1) := by decide +kernel
theorem dX2_firstActiveHeir_36 : decode cX2_firstActiveHeir 36 = .ok (.ireturn, 1) := by decide +kernel
theorem dX2_firstActiveHeir_37 : decode cX2_firstActiveHeir 37 = .ok (.aload_n 0, 1) := by decide +kernel
theorem dX2_firstActiveHeir_38 : decode cX2_firstActiveHeir 38 = .ok (.getfield 14, 3) := by decide +kernel
theorem dX2_firstActiveHeir_41 : decode cX2_firstActiveHeir 41 = .ok (.iload_n 2, 1) := by decide +kernel
theorem dX2_firstActiveHeir_42 : decode cX2_firstActiveHeir 42 = .ok (.invokevirtual 70, 3) := by decide +kernel
theorem dX2_firstActiveHeir_45 : decode cX2_firstActiveHeir 45 = .ok (.istore_n 2, 1) := by decide +kernel
theorem dX2_firstActiveHeir_46 : decode cX2_firstActiveHeir 46 = .ok (.iinc 3 1, 3) := by decide +kernel
theorem dX2_firstActiveHeir_49 : decode cX2_firstActiveHeir 49 = .ok (.goto (-38), 3) := by decide +kernel
theorem dX2_firstActiveHeir_52 : decode cX2_firstActiveHeir 52 = .ok (.iconst (-1), 1) := by decide +kernel
theorem dX2_firstActiveHeir_53 : decode cX2_firstActiveHeir 53 = .ok (.ireturn, 1) := by decide +kernel
set_option maxRecDepth 20000 in
theorem ggX2_ownerAbove_X1_at : GoodIn wsX2_ownerAbove wsX1_at := goodIn_ca (goodIn_r _ [7, 8, 9, 44, 45] (by decide +kernel) (by decide +kernel)) (goodIn_sub (fun _ h => List.mem_cons_of_mem _ (List.mem_append_right _ h)) (by decide +kernel))
set_option maxRecDepth 20000 in
theorem gX2_ownerAbove_X1_at : GoodIn wsX2_ownerAbove (wsV RX2 70 RX1 yX1_at wsX1_at) := goodIn_app (goodIn_of _ (by decide +kernel)) ggX2_ownerAbove_X1_at
set_option maxRecDepth 20000 in
theorem ggX2_ownerAbove_X2_isHandedOverBy : GoodIn wsX2_ownerAbove wsX2_isHandedOverBy := goodIn_ca (goodIn_r _ [14, 2, 3, 4, 5, 6, 7, 8, 9, 15, 16, 17, 13, 18, 19, 20, 21, 22, 28, 29, 30, 31, 32, 33, 34, 35, 36, 37, 38, 39, 40, 41, 42, 43, 44, 45] (by decide +kernel) (by decide +kernel)) (goodIn_sub (fun _ h => List.mem_cons_of_mem _ (List.mem_append_right _ h)) (by decide +kernel))
set_option maxRecDepth 20000 in
theorem gX2_ownerAbove_X2_isHandedOverBy : GoodIn wsX2_ownerAbove (wsV RX2 247 RX2 yX2_isHandedOverBy wsX2_isHandedOverBy) := goodIn_app (goodIn_of _ (by decide +kernel)) ggX2_ownerAbove_X2_isHandedOverBy
set_option maxRecDepth 20000 in
theorem ggX2_ownerAbove_X2_isActive : GoodIn wsX2_ownerAbove wsX2_isActive := goodIn_r _ [26, 27, 20, 21, 13, 22, 28, 29, 30, 31, 32, 33, 34, 35, 36, 37, 38, 39, 40, 41, 42, 43] (by decide +kernel) (by decide +kernel)
set_option maxRecDepth 20000 in
theorem gX2_ownerAbove_X2_isActive : GoodIn wsX2_ownerAbove (wsV RX2 88 RX2 yX2_isActive wsX2_isActive) := goodIn_app (goodIn_of _ (by decide +kernel)) ggX2_ownerAbove_X2_isActive
theorem dX2_ownerAbove_0 : decode cX2_ownerAbove 0 = .ok (.aload_n 0, 1) := by decide +kernel
theorem dX2_ownerAbove_1 : decode cX2_ownerAbove 1 = .ok (.getfield 21, 3) := by decide +kernel
theorem dX2_ownerAbove_4 : decode cX2_ownerAbove 4 = .ok (.iload_n 1, 1) := by decide +kernel
theorem dX2_ownerAbove_5 : decode cX2_ownerAbove 5 = .ok (.invokevirtual 70, 3) := by decide +kernel
theorem dX2_ownerAbove_8 : decode cX2_ownerAbove 8 = .ok (.istore_n 3, 1) := by decide +kernel
theorem dX2_ownerAbove_9 : decode cX2_ownerAbove 9 = .ok (.iconst 0, 1) := by decide +kernel
theorem dX2_ownerAbove_10 : decode cX2_ownerAbove 10 = .ok (.istore 4, 2) := by decide +kernel
theorem dX2_ownerAbove_12 : decode cX2_ownerAbove 12 = .ok (.iload 4, 2) := by decide +kernel
theorem dX2_ownerAbove_14 : decode cX2_ownerAbove 14 = .ok (.bipush 12, 2) := by decide +kernel
theorem dX2_ownerAbove_16 : decode cX2_ownerAbove 16 = .ok (.if_icmp .ge 27, 3) := by decide +kernel
theorem dX2_ownerAbove_19 : decode cX2_ownerAbove 19 = .ok (.aload_n 0, 1) := by decide +kernel
theorem dX2_ownerAbove_20 : decode cX2_ownerAbove 20 = .ok (.iload_n 2, 1) := by decide +kernel
theorem dX2_ownerAbove_21 : decode cX2_ownerAbove 21 = .ok (.iload_n 3, 1) := by decide +kernel
theorem dX2_ownerAbove_22 : decode cX2_ownerAbove 22 = .ok (.invokevirtual 247, 3) := by decide +kernel
theorem dX2_ownerAbove_25 : decode cX2_ownerAbove 25 = .ok (.ifCond .eq 18, 3) := by decide +kernel
theorem dX2_ownerAbove_28 : decode cX2_ownerAbove 28 = .ok (.aload_n 0, 1) := by decide +kernel
theorem dX2_ownerAbove_29 : decode cX2_ownerAbove 29 = .ok (.getfield 21, 3) := by decide +kernel
theorem dX2_ownerAbove_32 : decode cX2_ownerAbove 32 = .ok (.iload_n 3, 1) := by decide +kernel
theorem dX2_ownerAbove_33 : decode cX2_ownerAbove 33 = .ok (.invokevirtual 70, 3) := by decide +kernel
theorem dX2_ownerAbove_36 : decode cX2_ownerAbove 36 = .ok (.istore_n 3, 1) := by decide +kernel
theorem dX2_ownerAbove_37 : decode cX2_ownerAbove 37 = .ok (.iinc 4 1, 3) := by decide +kernel
theorem dX2_ownerAbove_40 : decode cX2_ownerAbove 40 = .ok (.goto (-28), 3) := by decide +kernel
theorem dX2_ownerAbove_43 : decode cX2_ownerAbove 43 = .ok (.aload_n 0, 1) := by decide +kernel
theorem dX2_ownerAbove_44 : decode cX2_ownerAbove 44 = .ok (.getfield 18, 3) := by decide +kernel
theorem dX2_ownerAbove_47 : decode cX2_ownerAbove 47 = .ok (.iload_n 3, 1) := by decide +kernel
theorem dX2_ownerAbove_48 : decode cX2_ownerAbove 48 = .ok (.invokevirtual 70, 3) := by decide +kernel
theorem dX2_ownerAbove_51 : decode cX2_ownerAbove 51 = .ok (.istore 4, 2) := by decide +kernel
theorem dX2_ownerAbove_53 : decode cX2_ownerAbove 53 = .ok (.iload 4, 2) := by decide +kernel
theorem dX2_ownerAbove_55 : decode cX2_ownerAbove 55 = .ok (.iload_n 2, 1) := by decide +kernel
theorem dX2_ownerAbove_56 : decode cX2_ownerAbove 56 = .ok (.if_icmp .eq 17, 3) := by decide +kernel
theorem dX2_ownerAbove_59 : decode cX2_ownerAbove 59 = .ok (.aload_n 0, 1) := by decide +kernel
theorem dX2_ownerAbove_60 : decode cX2_ownerAbove 60 = .ok (.iload 4, 2) := by decide +kernel
theorem dX2_ownerAbove_62 : decode cX2_ownerAbove 62 = .ok (.invokevirtual 88, 3) := by decide +kernel
theorem dX2_ownerAbove_65 : decode cX2_ownerAbove 65 = .ok (.ifCond .eq 8, 3) := by decide +kernel
theorem dX2_ownerAbove_68 : decode cX2_ownerAbove 68 = .ok (.iload 4, 2) := by decide +kernel
theorem dX2_ownerAbove_70 : decode cX2_ownerAbove 70 = .ok (.goto 4, 3) := by decide +kernel
theorem dX2_ownerAbove_73 : decode cX2_ownerAbove 73 = .ok (.iconst 0, 1) := by decide +kernel
theorem dX2_ownerAbove_74 : decode cX2_ownerAbove 74 = .ok (.ireturn, 1) := by decide +kernel
theorem dX2_contains_0 : decode cX2_contains 0 = .ok (.iload_n 1, 1) := by decide +kernel
theorem dX2_contains_1 : decode cX2_contains 1 = .ok (.ifCond .lt 21, 3) := by decide +kernel
theorem dX2_contains_4 : decode cX2_contains 4 = .ok (.iload_n 1, 1) := by decide +kernel
theorem dX2_contains_5 : decode cX2_contains 5 = .ok (.bipush 32, 2) := by decide +kernel
theorem dX2_contains_7 : decode cX2_contains 7 = .ok (.if_icmp .ge 15, 3) := by decide +kernel
theorem dX2_contains_10 : decode cX2_contains 10 = .ok (.iload_n 0, 1) := by decide +kernel
theorem dX2_contains_11 : decode cX2_contains 11 = .ok (.iload_n 1, 1) := by decide +kernel
theorem dX2_contains_12 : decode cX2_contains 12 = .ok (.iushr, 1) := by decide +kernel
theorem dX2_contains_13 : decode cX2_contains 13 = .ok (.iconst 1, 1) := by decide +kernel
theorem dX2_contains_14 : decode cX2_contains 14 = .ok (.iand, 1) := by decide +kernel
theorem dX2_contains_15 : decode cX2_contains 15 = .ok (.ifCond .eq 7, 3) := by decide +kernel
theorem dX2_contains_18 : decode cX2_contains 18 = .ok (.iconst 1, 1) := by decide +kernel
theorem dX2_contains_19 : decode cX2_contains 19 = .ok (.goto 4, 3) := by decide +kernel
theorem dX2_contains_22 : decode cX2_contains 22 = .ok (.iconst 0, 1) := by decide +kernel
theorem dX2_contains_23 : decode cX2_contains 23 = .ok (.ireturn, 1) := by decide +kernel
theorem dX2_with_0 : decode cX2_with 0 = .ok (.iload_n 0, 1) := by decide +kernel
theorem dX2_with_1 : decode cX2_with 1 = .ok (.iconst 1, 1) := by decide +kernel
theorem dX2_with_2 : decode cX2_with 2 = .ok (.iload_n 1, 1) := by decide +kernel
theorem dX2_with_3 : decode cX2_with 3 = .ok (.ishl, 1) := by decide +kernel
theorem dX2_with_4 : decode cX2_with 4 = .ok (.ior, 1) := by decide +kernel
theorem dX2_with_5 : decode cX2_with 5 = .ok (.ireturn, 1) := by decide +kernel
theorem dX2_without_0 : decode cX2_without 0 = .ok (.iload_n 0, 1) := by decide +kernel
theorem dX2_without_1 : decode cX2_without 1 = .ok (.iconst 1, 1) := by decide +kernel
theorem dX2_without_2 : decode cX2_without 2 = .ok (.iload_n 1, 1) := by decide +kernel
theorem dX2_without_3 : decode cX2_without 3 = .ok (.ishl, 1) := by decide +kernel
theorem dX2_without_4 : decode cX2_without 4 = .ok (.iconst (-1), 1) := by decide +kernel
theorem dX2_without_5 : decode cX2_without 5 = .ok (.ixor, 1) := by decide +kernel
theorem dX2_without_6 : decode cX2_without 6 = .ok (.iand, 1) := by decide +kernel
theorem dX2_without_7 : decode cX2_without 7 = .ok (.ireturn, 1) := by decide +kernel

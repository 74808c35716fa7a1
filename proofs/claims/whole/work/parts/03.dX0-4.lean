theorem dX0_init_0 : decode cX0_init 0 = .ok (.aload_n 0, 1) := by decide +kernel
theorem dX0_init_1 : decode cX0_init 1 = .ok (.invokespecial 3, 3) := by decide +kernel
theorem dX0_init_4 : decode cX0_init 4 = .ok (.aload_n 0, 1) := by decide +kernel
theorem dX0_init_5 : decode cX0_init 5 = .ok (.bipush 6, 2) := by decide +kernel
theorem dX0_init_7 : decode cX0_init 7 = .ok (.newarray .int, 2) := by decide +kernel
theorem dX0_init_9 : decode cX0_init 9 = .ok (.putfield 9, 3) := by decide +kernel
theorem dX0_init_12 : decode cX0_init 12 = .ok (.aload_n 0, 1) := by decide +kernel
theorem dX0_init_13 : decode cX0_init 13 = .ok (.bipush 10, 2) := by decide +kernel
theorem dX0_init_15 : decode cX0_init 15 = .ok (.newarray .int, 2) := by decide +kernel
theorem dX0_init_17 : decode cX0_init 17 = .ok (.putfield 15, 3) := by decide +kernel
theorem dX0_init_20 : decode cX0_init 20 = .ok (.aload_n 0, 1) := by decide +kernel
theorem dX0_init_21 : decode cX0_init 21 = .ok (.bipush 10, 2) := by decide +kernel
theorem dX0_init_23 : decode cX0_init 23 = .ok (.newarray .int, 2) := by decide +kernel
theorem dX0_init_25 : decode cX0_init 25 = .ok (.putfield 18, 3) := by decide +kernel
theorem dX0_init_28 : decode cX0_init 28 = .ok (.aload_n 0, 1) := by decide +kernel
theorem dX0_init_29 : decode cX0_init 29 = .ok (.bipush 10, 2) := by decide +kernel
theorem dX0_init_31 : decode cX0_init 31 = .ok (.newarray .int, 2) := by decide +kernel
theorem dX0_init_33 : decode cX0_init 33 = .ok (.putfield 21, 3) := by decide +kernel
theorem dX0_init_36 : decode cX0_init 36 = .ok (.aload_n 0, 1) := by decide +kernel
theorem dX0_init_37 : decode cX0_init 37 = .ok (.bipush 10, 2) := by decide +kernel
theorem dX0_init_39 : decode cX0_init 39 = .ok (.newarray .int, 2) := by decide +kernel
theorem dX0_init_41 : decode cX0_init 41 = .ok (.putfield 24, 3) := by decide +kernel
theorem dX0_init_44 : decode cX0_init 44 = .ok (.aload_n 0, 1) := by decide +kernel
theorem dX0_init_45 : decode cX0_init 45 = .ok (.bipush 10, 2) := by decide +kernel
theorem dX0_init_47 : decode cX0_init 47 = .ok (.newarray .boolean, 2) := by decide +kernel
theorem dX0_init_49 : decode cX0_init 49 = .ok (.putfield 27, 3) := by decide +kernel
theorem dX0_init_52 : decode cX0_init 52 = .ok (.aload_n 0, 1) := by decide +kernel
theorem dX0_init_53 : decode cX0_init 53 = .ok (.iconst 4, 1) := by decide +kernel
theorem dX0_init_54 : decode cX0_init 54 = .ok (.putfield 31, 3) := by decide +kernel
theorem dX0_init_57 : decode cX0_init 57 = .ok (.return_, 1) := by decide +kernel
theorem dX0_hasBus_0 : decode cX0_hasBus 0 = .ok (.iload_n 1, 1) := by decide +kernel
theorem dX0_hasBus_1 : decode cX0_hasBus 1 = .ok (.ifCond .lt 15, 3) := by decide +kernel
theorem dX0_hasBus_4 : decode cX0_hasBus 4 = .ok (.iload_n 1, 1) := by decide +kernel
theorem dX0_hasBus_5 : decode cX0_hasBus 5 = .ok (.aload_n 0, 1) := by decide +kernel
theorem dX0_hasBus_6 : decode cX0_hasBus 6 = .ok (.getfield 31, 3) := by decide +kernel
theorem dX0_hasBus_9 : decode cX0_hasBus 9 = .ok (.if_icmp .ge 7, 3) := by decide +kernel
theorem dX0_hasBus_12 : decode cX0_hasBus 12 = .ok (.iconst 1, 1) := by decide +kernel
theorem dX0_hasBus_13 : decode cX0_hasBus 13 = .ok (.goto 4, 3) := by decide +kernel
theorem dX0_hasBus_16 : decode cX0_hasBus 16 = .ok (.iconst 0, 1) := by decide +kernel
theorem dX0_hasBus_17 : decode cX0_hasBus 17 = .ok (.ireturn, 1) := by decide +kernel
theorem dX0_hasLine_0 : decode cX0_hasLine 0 = .ok (.iload_n 1, 1) := by decide +kernel
theorem dX0_hasLine_1 : decode cX0_hasLine 1 = .ok (.ifCond .lt 15, 3) := by decide +kernel
theorem dX0_hasLine_4 : decode cX0_hasLine 4 = .ok (.iload_n 1, 1) := by decide +kernel
theorem dX0_hasLine_5 : decode cX0_hasLine 5 = .ok (.aload_n 0, 1) := by decide +kernel
theorem dX0_hasLine_6 : decode cX0_hasLine 6 = .ok (.getfield 35, 3) := by decide +kernel
theorem dX0_hasLine_9 : decode cX0_hasLine 9 = .ok (.if_icmp .ge 7, 3) := by decide +kernel
theorem dX0_hasLine_12 : decode cX0_hasLine 12 = .ok (.iconst 1, 1) := by decide +kernel
theorem dX0_hasLine_13 : decode cX0_hasLine 13 = .ok (.goto 4, 3) := by decide +kernel
theorem dX0_hasLine_16 : decode cX0_hasLine 16 = .ok (.iconst 0, 1) := by decide +kernel
theorem dX0_hasLine_17 : decode cX0_hasLine 17 = .ok (.ireturn, 1) := by decide +kernel
theorem dX0_isFull_0 : decode cX0_isFull 0 = .ok (.aload_n 0, 1) := by decide +kernel
theorem dX0_isFull_1 : decode cX0_isFull 1 = .ok (.getfield 35, 3) := by decide +kernel
theorem dX0_isFull_4 : decode cX0_isFull 4 = .ok (.bipush 10, 2) := by decide +kernel
theorem dX0_isFull_6 : decode cX0_isFull 6 = .ok (.if_icmp .lt 7, 3) := by decide +kernel
theorem dX0_isFull_9 : decode cX0_isFull 9 = .ok (.iconst 1, 1) := by decide +kernel
theorem dX0_isFull_10 : decode cX0_isFull 10 = .ok (.goto 4, 3) := by decide +kernel
theorem dX0_isFull_13 : decode cX0_isFull 13 = .ok (.iconst 0, 1) := by decide +kernel
theorem dX0_isFull_14 : decode cX0_isFull 14 = .ok (.ireturn, 1) := by decide +kernel
theorem dX0_serving_0 : decode cX0_serving 0 = .ok (.iconst 0, 1) := by decide +kernel
theorem dX0_serving_1 : decode cX0_serving 1 = .ok (.istore_n 1, 1) := by decide +kernel
theorem dX0_serving_2 : decode cX0_serving 2 = .ok (.iconst 0, 1) := by decide +kernel
theorem dX0_serving_3 : decode cX0_serving 3 = .ok (.istore_n 2, 1) := by decide +kernel
theorem dX0_serving_4 : decode cX0_serving 4 = .ok (.iload_n 2, 1) := by decide +kernel
theorem dX0_serving_5 : decode cX0_serving 5 = .ok (.aload_n 0, 1) := by decide +kernel
theorem dX0_serving_6 : decode cX0_serving 6 = .ok (.getfield 35, 3) := by decide +kernel
theorem dX0_serving_9 : decode cX0_serving 9 = .ok (.if_icmp .ge 21, 3) := by decide +kernel
theorem dX0_serving_12 : decode cX0_serving 12 = .ok (.aload_n 0, 1) := by decide +kernel
theorem dX0_serving_13 : decode cX0_serving 13 = .ok (.getfield 27, 3) := by decide +kernel
theorem dX0_serving_16 : decode cX0_serving 16 = .ok (.iload_n 2, 1) := by decide +kernel
theorem dX0_serving_17 : decode cX0_serving 17 = .ok (.baload, 1) := by decide +kernel
theorem dX0_serving_18 : decode cX0_serving 18 = .ok (.ifCond .eq 6, 3) := by decide +kernel
theorem dX0_serving_21 : decode cX0_serving 21 = .ok (.iinc 1 1, 3) := by decide +kernel
theorem dX0_serving_24 : decode cX0_serving 24 = .ok (.iinc 2 1, 3) := by decide +kernel
theorem dX0_serving_27 : decode cX0_serving 27 = .ok (.goto (-23), 3) := by decide +kernel
theorem dX0_serving_30 : decode cX0_serving 30 = .ok (.iload_n 1, 1) := by decide +kernel
theorem dX0_serving_31 : decode cX0_serving 31 = .ok (.ireturn, 1) := by decide +kernel
theorem dX0_canHave_0 : decode cX0_canHave 0 = .ok (.iload_n 0, 1) := by decide +kernel
theorem dX0_canHave_1 : decode cX0_canHave 1 = .ok (.iconst 2, 1) := by decide +kernel
theorem dX0_canHave_2 : decode cX0_canHave 2 = .ok (.bipush 6, 2) := by decide +kernel
theorem dX0_canHave_4 : decode cX0_canHave 4 = .ok (.invokestatic 38, 3) := by decide +kernel
theorem dX0_canHave_7 : decode cX0_canHave 7 = .ok (.ireturn, 1) := by decide +kernel
theorem dX0_restart_0 : decode cX0_restart 0 = .ok (.aload_n 0, 1) := by decide +kernel
theorem dX0_restart_1 : decode cX0_restart 1 = .ok (.getfield 31, 3) := by decide +kernel
theorem dX0_restart_4 : decode cX0_restart 4 = .ok (.istore_n 2, 1) := by decide +kernel
theorem dX0_restart_5 : decode cX0_restart 5 = .ok (.aload_n 0, 1) := by decide +kernel
theorem dX0_restart_6 : decode cX0_restart 6 = .ok (.iload_n 1, 1) := by decide +kernel
theorem dX0_restart_7 : decode cX0_restart 7 = .ok (.putfield 31, 3) := by decide +kernel
theorem dX0_restart_10 : decode cX0_restart 10 = .ok (.aload_n 0, 1) := by decide +kernel
theorem dX0_restart_11 : decode cX0_restart 11 = .ok (.iconst 0, 1) := by decide +kernel
theorem dX0_restart_12 : decode cX0_restart 12 = .ok (.putfield 35, 3) := by decide +kernel
theorem dX0_restart_15 : decode cX0_restart 15 = .ok (.iconst 0, 1) := by decide +kernel
theorem dX0_restart_16 : decode cX0_restart 16 = .ok (.istore_n 3, 1) := by decide +kernel
theorem dX0_restart_17 : decode cX0_restart 17 = .ok (.iload_n 3, 1) := by decide +kernel
theorem dX0_restart_18 : decode cX0_restart 18 = .ok (.bipush 6, 2) := by decide +kernel
theorem dX0_restart_20 : decode cX0_restart 20 = .ok (.if_icmp .ge 16, 3) := by decide +kernel
theorem dX0_restart_23 : decode cX0_restart 23 = .ok (.aload_n 0, 1) := by decide +kernel
theorem dX0_restart_24 : decode cX0_restart 24 = .ok (.getfield 9, 3) := by decide +kernel
theorem dX0_restart_27 : decode cX0_restart 27 = .ok (.iload_n 3, 1) := by decide +kernel
theorem dX0_restart_28 : decode cX0_restart 28 = .ok (.iconst 0, 1) := by decide +kernel
theorem dX0_restart_29 : decode cX0_restart 29 = .ok (.iastore, 1) := by decide +kernel
theorem dX0_restart_30 : decode cX0_restart 30 = .ok (.iinc 3 1, 3) := by decide +kernel
theorem dX0_restart_33 : decode cX0_restart 33 = .ok (.goto (-16), 3) := by decide +kernel
theorem dX0_restart_36 : decode cX0_restart 36 = .ok (.iload_n 2, 1) := by decide +kernel
theorem dX0_restart_37 : decode cX0_restart 37 = .ok (.ireturn, 1) := by decide +kernel
theorem dX0_canInject_0 : decode cX0_canInject 0 = .ok (.aload_n 0, 1) := by decide +kernel
theorem dX0_canInject_1 : decode cX0_canInject 1 = .ok (.iload_n 1, 1) := by decide +kernel
theorem dX0_canInject_2 : decode cX0_canInject 2 = .ok (.invokevirtual 42, 3) := by decide +kernel
theorem dX0_canInject_5 : decode cX0_canInject 5 = .ok (.ifCond .eq 18, 3) := by decide +kernel
theorem dX0_canInject_8 : decode cX0_canInject 8 = .ok (.iload_n 2, 1) := by decide +kernel
theorem dX0_canInject_9 : decode cX0_canInject 9 = .ok (.bipush (-99), 2) := by decide +kernel
theorem dX0_canInject_11 : decode cX0_canInject 11 = .ok (.bipush 99, 2) := by decide +kernel
theorem dX0_canInject_13 : decode cX0_canInject 13 = .ok (.invokestatic 38, 3) := by decide +kernel
theorem dX0_canInject_16 : decode cX0_canInject 16 = .ok (.ifCond .eq 7, 3) := by decide +kernel
theorem dX0_canInject_19 : decode cX0_canInject 19 = .ok (.iconst 1, 1) := by decide +kernel
theorem dX0_canInject_20 : decode cX0_canInject 20 = .ok (.goto 4, 3) := by decide +kernel
theorem dX0_canInject_23 : decode cX0_canInject 23 = .ok (.iconst 0, 1) := by decide +kernel
theorem dX0_canInject_24 : decode cX0_canInject 24 = .ok (.ireturn, 1) := by decide +kernel
theorem dX0_inject_0 : decode cX0_inject 0 = .ok (.aload_n 0, 1) := by decide +kernel
theorem dX0_inject_1 : decode cX0_inject 1 = .ok (.getfield 9, 3) := by decide +kernel
theorem dX0_inject_4 : decode cX0_inject 4 = .ok (.iload_n 1, 1) := by decide +kernel
theorem dX0_inject_5 : decode cX0_inject 5 = .ok (.iaload, 1) := by decide +kernel
theorem dX0_inject_6 : decode cX0_inject 6 = .ok (.istore_n 3, 1) := by decide +kernel
theorem dX0_inject_7 : decode cX0_inject 7 = .ok (.aload_n 0, 1) := by decide +kernel
theorem dX0_inject_8 : decode cX0_inject 8 = .ok (.getfield 9, 3) := by decide +kernel
theorem dX0_inject_11 : decode cX0_inject 11 = .ok (.iload_n 1, 1) := by decide +kernel
theorem dX0_inject_12 : decode cX0_inject 12 = .ok (.iload_n 2, 1) := by decide +kernel
theorem dX0_inject_13 : decode cX0_inject 13 = .ok (.iastore, 1) := by decide +kernel
theorem dX0_inject_14 : decode cX0_inject 14 = .ok (.iload_n 3, 1) := by decide +kernel
theorem dX0_inject_15 : decode cX0_inject 15 = .ok (.ireturn, 1) := by decide +kernel
theorem dX0_canJoin_0 : decode cX0_canJoin 0 = .ok (.aload_n 0, 1) := by decide +kernel
theorem dX0_canJoin_1 : decode cX0_canJoin 1 = .ok (.iload_n 1, 1) := by decide +kernel
theorem dX0_canJoin_2 : decode cX0_canJoin 2 = .ok (.invokevirtual 42, 3) := by decide +kernel
theorem dX0_canJoin_5 : decode cX0_canJoin 5 = .ok (.ifCond .eq 41, 3) := by decide +kernel
theorem dX0_canJoin_8 : decode cX0_canJoin 8 = .ok (.aload_n 0, 1) := by decide +kernel
theorem dX0_canJoin_9 : decode cX0_canJoin 9 = .ok (.iload_n 2, 1) := by decide +kernel
theorem dX0_canJoin_10 : decode cX0_canJoin 10 = .ok (.invokevirtual 42, 3) := by decide +kernel
theorem dX0_canJoin_13 : decode cX0_canJoin 13 = .ok (.ifCond .eq 33, 3) := by decide +kernel
theorem dX0_canJoin_16 : decode cX0_canJoin 16 = .ok (.iload_n 1, 1) := by decide +kernel
theorem dX0_canJoin_17 : decode cX0_canJoin 17 = .ok (.iload_n 2, 1) := by decide +kernel
theorem dX0_canJoin_18 : decode cX0_canJoin 18 = .ok (.if_icmp .eq 28, 3) := by decide +kernel
theorem dX0_canJoin_21 : decode cX0_canJoin 21 = .ok (.iload_n 3, 1) := by decide +kernel
theorem dX0_canJoin_22 : decode cX0_canJoin 22 = .ok (.iconst 1, 1) := by decide +kernel
theorem dX0_canJoin_23 : decode cX0_canJoin 23 = .ok (.iconst 5, 1) := by decide +kernel
theorem dX0_canJoin_24 : decode cX0_canJoin 24 = .ok (.invokestatic 38, 3) := by decide +kernel
theorem dX0_canJoin_27 : decode cX0_canJoin 27 = .ok (.ifCond .eq 19, 3) := by decide +kernel
theorem dX0_canJoin_30 : decode cX0_canJoin 30 = .ok (.iload 4, 2) := by decide +kernel
theorem dX0_canJoin_32 : decode cX0_canJoin 32 = .ok (.iconst 1, 1) := by decide +kernel
theorem dX0_canJoin_33 : decode cX0_canJoin 33 = .ok (.sipush 999, 3) := by decide +kernel
theorem dX0_canJoin_36 : decode cX0_canJoin 36 = .ok (.invokestatic 38, 3) := by decide +kernel
theorem dX0_canJoin_39 : decode cX0_canJoin 39 = .ok (.ifCond .eq 7, 3) := by decide +kernel
theorem dX0_canJoin_42 : decode cX0_canJoin 42 = .ok (.iconst 1, 1) := by decide +kernel
theorem dX0_canJoin_43 : decode cX0_canJoin 43 = .ok (.goto 4, 3) := by decide +kernel
theorem dX0_canJoin_46 : decode cX0_canJoin 46 = .ok (.iconst 0, 1) := by decide +kernel
theorem dX0_canJoin_47 : decode cX0_canJoin 47 = .ok (.ireturn, 1) := by decide +kernel
theorem dX0_join_0 : decode cX0_join 0 = .ok (.aload_n 0, 1) := by decide +kernel
theorem dX0_join_1 : decode cX0_join 1 = .ok (.getfield 35, 3) := by decide +kernel
theorem dX0_join_4 : decode cX0_join 4 = .ok (.istore 5, 2) := by decide +kernel
theorem dX0_join_6 : decode cX0_join 6 = .ok (.aload_n 0, 1) := by decide +kernel
theorem dX0_join_7 : decode cX0_join 7 = .ok (.getfield 15, 3) := by decide +kernel
theorem dX0_join_10 : decode cX0_join 10 = .ok (.iload 5, 2) := by decide +kernel
theorem dX0_join_12 : decode cX0_join 12 = .ok (.iload_n 1, 1) := by decide +kernel
theorem dX0_join_13 : decode cX0_join 13 = .ok (.iastore, 1) := by decide +kernel
theorem dX0_join_14 : decode cX0_join 14 = .ok (.aload_n 0, 1) := by decide +kernel
theorem dX0_join_15 : decode cX0_join 15 = .ok (.getfield 18, 3) := by decide +kernel
theorem dX0_join_18 : decode cX0_join 18 = .ok (.iload 5, 2) := by decide +kernel
theorem dX0_join_20 : decode cX0_join 20 = .ok (.iload_n 2, 1) := by decide +kernel
theorem dX0_join_21 : decode cX0_join 21 = .ok (.iastore, 1) := by decide +kernel
theorem dX0_join_22 : decode cX0_join 22 = .ok (.aload_n 0, 1) := by decide +kernel
theorem dX0_join_23 : decode cX0_join 23 = .ok (.getfield 21, 3) := by decide +kernel
theorem dX0_join_26 : decode cX0_join 26 = .ok (.iload 5, 2) := by decide +kernel
theorem dX0_join_28 : decode cX0_join 28 = .ok (.iload_n 3, 1) := by decide +kernel
theorem dX0_join_29 : decode cX0_join 29 = .ok (.iastore, 1) := by decide +kernel
theorem dX0_join_30 : decode cX0_join 30 = .ok (.aload_n 0, 1) := by decide +kernel
theorem dX0_join_31 : decode cX0_join 31 = .ok (.getfield 24, 3) := by decide +kernel
theorem dX0_join_34 : decode cX0_join 34 = .ok (.iload 5, 2) := by decide +kernel
theorem dX0_join_36 : decode cX0_join 36 = .ok (.iload 4, 2) := by decide +kernel
theorem dX0_join_38 : decode cX0_join 38 = .ok (.iastore, 1) := by decide +kernel
theorem dX0_join_39 : decode cX0_join 39 = .ok (.aload_n 0, 1) := by decide +kernel
theorem dX0_join_40 : decode cX0_join 40 = .ok (.getfield 27, 3) := by decide +kernel
theorem dX0_join_43 : decode cX0_join 43 = .ok (.iload 5, 2) := by decide +kernel
theorem dX0_join_45 : decode cX0_join 45 = .ok (.iconst 1, 1) := by decide +kernel
theorem dX0_join_46 : decode cX0_join 46 = .ok (.bastore, 1) := by decide +kernel
theorem dX0_join_47 : decode cX0_join 47 = .ok (.aload_n 0, 1) := by decide +kernel
theorem dX0_join_48 : decode cX0_join 48 = .ok (.dup, 1) := by decide +kernel
theorem dX0_join_49 : decode cX0_join 49 = .ok (.getfield 35, 3) := by decide +kernel
theorem dX0_join_52 : decode cX0_join 52 = .ok (.iconst 1, 1) := by decide +kernel
theorem dX0_join_53 : decode cX0_join 53 = .ok (.iadd, 1) := by decide +kernel
theorem dX0_join_54 : decode cX0_join 54 = .ok (.putfield 35, 3) := by decide +kernel
theorem dX0_join_57 : decode cX0_join 57 = .ok (.iload 5, 2) := by decide +kernel
theorem dX0_join_59 : decode cX0_join 59 = .ok (.ireturn, 1) := by decide +kernel
theorem dX0_remove_0 : decode cX0_remove 0 = .ok (.iload_n 1, 1) := by decide +kernel
theorem dX0_remove_1 : decode cX0_remove 1 = .ok (.istore_n 2, 1) := by decide +kernel
theorem dX0_remove_2 : decode cX0_remove 2 = .ok (.iload_n 2, 1) := by decide +kernel
theorem dX0_remove_3 : decode cX0_remove 3 = .ok (.iconst 1, 1) := by decide +kernel
theorem dX0_remove_4 : decode cX0_remove 4 = .ok (.iadd, 1) := by decide +kernel
theorem dX0_remove_5 : decode cX0_remove 5 = .ok (.aload_n 0, 1) := by decide +kernel
theorem dX0_remove_6 : decode cX0_remove 6 = .ok (.getfield 35, 3) := by decide +kernel
theorem dX0_remove_9 : decode cX0_remove 9 = .ok (.if_icmp .ge 79, 3) := by decide +kernel
theorem dX0_remove_12 : decode cX0_remove 12 = .ok (.aload_n 0, 1) := by decide +kernel
theorem dX0_remove_13 : decode cX0_remove 13 = .ok (.getfield 15, 3) := by decide +kernel
theorem dX0_remove_16 : decode cX0_remove 16 = .ok (.iload_n 2, 1) := by decide +kernel
theorem dX0_remove_17 : decode cX0_remove 17 = .ok (.aload_n 0, 1) := by decide +kernel
theorem dX0_remove_18 : decode cX0_remove 18 = .ok (.getfield 15, 3) := by decide +kernel
theorem dX0_remove_21 : decode cX0_remove 21 = .ok (.iload_n 2, 1) := by decide +kernel
theorem dX0_remove_22 : decode cX0_remove 22 = .ok (.iconst 1, 1) := by decide +kernel
theorem dX0_remove_23 : decode cX0_remove 23 = .ok (.iadd, 1) := by decide +kernel
theorem dX0_remove_24 : decode cX0_remove 24 = .ok (.iaload, 1) := by decide +kernel
theorem dX0_remove_25 : decode cX0_remove 25 = .ok (.iastore, 1) := by decide +kernel
theorem dX0_remove_26 : decode cX0_remove 26 = .ok (.aload_n 0, 1) := by decide +kernel
theorem dX0_remove_27 : decode cX0_remove 27 = .ok (.getfield 18, 3) := by decide +kernel
theorem dX0_remove_30 : decode cX0_remove 30 = .ok (.iload_n 2, 1) := by decide +kernel
theorem dX0_remove_31 : decode cX0_remove 31 = .ok (.aload_n 0, 1) := by decide +kernel
theorem dX0_remove_32 : decode cX0_remove 32 = .ok (.getfield 18, 3) := by decide +kernel
theorem dX0_remove_35 : decode cX0_remove 35 = .ok (.iload_n 2, 1) := by decide +kernel
theorem dX0_remove_36 : decode cX0_remove 36 = .ok (.iconst 1, 1) := by decide +kernel
theorem dX0_remove_37 : decode cX0_remove 37 = .ok (.iadd, 1) := by decide +kernel
theorem dX0_remove_38 : decode cX0_remove 38 = .ok (.iaload, 1) := by decide +kernel
theorem dX0_remove_39 : decode cX0_remove 39 = .ok (.iastore, 1) := by decide +kernel
theorem dX0_remove_40 : decode cX0_remove 40 = .ok (.aload_n 0, 1) := by decide +kernel
theorem dX0_remove_41 : decode cX0_remove 41 = .ok (.getfield 21, 3) := by decide +kernel
theorem dX0_remove_44 : decode cX0_remove 44 = .ok (.iload_n 2, 1) := by decide +kernel
theorem dX0_remove_45 : decode cX0_remove 45 = .ok (.aload_n 0, 1) := by decide +kernel
theorem dX0_remove_46 : decode cX0_remove 46 = .ok (.getfield 21, 3) := by decide +kernel
theorem dX0_remove_49 : decode cX0_remove 49 = .ok (.iload_n 2, 1) := by decide +kernel
theorem dX0_remove_50 : decode cX0_remove 50 = .ok (.iconst 1, 1) := by decide +kernel
theorem dX0_remove_51 : decode cX0_remove 51 = .ok (.iadd, 1) := by decide +kernel
theorem dX0_remove_52 : decode cX0_remove 52 = .ok (.iaload, 1) := by decide +kernel
theorem dX0_remove_53 : decode cX0_remove 53 = .ok (.iastore, 1) := by decide +kernel
theorem dX0_remove_54 : decode cX0_remove 54 = .ok (.aload_n 0, 1) := by decide +kernel
theorem dX0_remove_55 : decode cX0_remove 55 = .ok (.getfield 24, 3) := by decide +kernel
theorem dX0_remove_58 : decode cX0_remove 58 = .ok (.iload_n 2, 1) := by decide +kernel
theorem dX0_remove_59 : decode cX0_remove 59 = .ok (.aload_n 0, 1) := by decide +kernel
theorem dX0_remove_60 : decode cX0_remove 60 = .ok (.getfield 24, 3) := by decide +kernel
theorem dX0_remove_63 : decode cX0_remove 63 = .ok (.iload_n 2, 1) := by decide +kernel
theorem dX0_remove_64 : decode cX0_remove 64 = .ok (.iconst 1, 1) := by decide +kernel
theorem dX0_remove_65 : decode cX0_remove 65 = .ok (.iadd, 1) := by decide +kernel
theorem dX0_remove_66 : decode cX0_remove 66 = .ok (.iaload, 1) := by decide +kernel
theorem dX0_remove_67 : decode cX0_remove 67 = .ok (.iastore, 1) := by decide +kernel
theorem dX0_remove_68 : decode cX0_remove 68 = .ok (.aload_n 0, 1) := by decide +kernel
theorem dX0_remove_69 : decode cX0_remove 69 = .ok (.getfield 27, 3) := by decide +kernel
theorem dX0_remove_72 : decode cX0_remove 72 = .ok (.iload_n 2, 1) := by decide +kernel
theorem dX0_remove_73 : decode cX0_remove 73 = .ok (.aload_n 0, 1) := by decide +kernel
theorem dX0_remove_74 : decode cX0_remove 74 = .ok (.getfield 27, 3) := by decide +kernel
theorem dX0_remove_77 : decode cX0_remove 77 = .ok (.iload_n 2, 1) := by decide +kernel
theorem dX0_remove_78 : decode cX0_remove 78 = .ok (.iconst 1, 1) := by decide +kernel
theorem dX0_remove_79 : decode cX0_remove 79 = .ok (.iadd, 1) := by decide +kernel
theorem dX0_remove_80 : decode cX0_remove 80 = .ok (.baload, 1) := by decide +kernel
theorem dX0_remove_81 : decode cX0_remove 81 = .ok (.bastore, 1) := by decide +kernel
theorem dX0_remove_82 : decode cX0_remove 82 = .ok (.iinc 2 1, 3) := by decide +kernel
theorem dX0_remove_85 : decode cX0_remove 85 = .ok (.goto (-83), 3) := by decide +kernel
theorem dX0_remove_88 : decode cX0_remove 88 = .ok (.aload_n 0, 1) := by decide +kernel
theorem dX0_remove_89 : decode cX0_remove 89 = .ok (.dup, 1) := by decide +kernel
theorem dX0_remove_90 : decode cX0_remove 90 = .ok (.getfield 35, 3) := by decide +kernel
theorem dX0_remove_93 : decode cX0_remove 93 = .ok (.iconst 1, 1) := by decide +kernel
theorem dX0_remove_94 : decode cX0_remove 94 = .ok (.isub, 1) := by decide +kernel
theorem dX0_remove_95 : decode cX0_remove 95 = .ok (.putfield 35, 3) := by decide +kernel
theorem dX0_remove_98 : decode cX0_remove 98 = .ok (.aload_n 0, 1) := by decide +kernel
theorem dX0_remove_99 : decode cX0_remove 99 = .ok (.getfield 35, 3) := by decide +kernel
theorem dX0_remove_102 : decode cX0_remove 102 = .ok (.ireturn, 1) := by decide +kernel
theorem dX0_turn_0 : decode cX0_turn 0 = .ok (.aload_n 0, 1) := by decide +kernel
theorem dX0_turn_1 : decode cX0_turn 1 = .ok (.getfield 27, 3) := by decide +kernel
theorem dX0_turn_4 : decode cX0_turn 4 = .ok (.iload_n 1, 1) := by decide +kernel
theorem dX0_turn_5 : decode cX0_turn 5 = .ok (.baload, 1) := by decide +kernel
theorem dX0_turn_6 : decode cX0_turn 6 = .ok (.ifCond .eq 7, 3) := by decide +kernel
theorem dX0_turn_9 : decode cX0_turn 9 = .ok (.iconst 1, 1) := by decide +kernel
theorem dX0_turn_10 : decode cX0_turn 10 = .ok (.goto 4, 3) := by decide +kernel
theorem dX0_turn_13 : decode cX0_turn 13 = .ok (.iconst 0, 1) := by decide +kernel
theorem dX0_turn_14 : decode cX0_turn 14 = .ok (.istore_n 3, 1) := by decide +kernel
theorem dX0_turn_15 : decode cX0_turn 15 = .ok (.aload_n 0, 1) := by decide +kernel
theorem dX0_turn_16 : decode cX0_turn 16 = .ok (.getfield 27, 3) := by decide +kernel
theorem dX0_turn_19 : decode cX0_turn 19 = .ok (.iload_n 1, 1) := by decide +kernel
theorem dX0_turn_20 : decode cX0_turn 20 = .ok (.iload_n 2, 1) := by decide +kernel
theorem dX0_turn_21 : decode cX0_turn 21 = .ok (.bastore, 1) := by decide +kernel
theorem dX0_turn_22 : decode cX0_turn 22 = .ok (.iload_n 3, 1) := by decide +kernel
theorem dX0_turn_23 : decode cX0_turn 23 = .ok (.ireturn, 1) := by decide +kernel
theorem dX0_canStrengthen_0 : decode cX0_canStrengthen 0 = .ok (.aload_n 0, 1) := by decide +kernel
theorem dX0_canStrengthen_1 : decode cX0_canStrengthen 1 = .ok (.iload_n 1, 1) := by decide +kernel
theorem dX0_canStrengthen_2 : decode cX0_canStrengthen 2 = .ok (.invokevirtual 46, 3) := by decide +kernel
theorem dX0_canStrengthen_5 : decode cX0_canStrengthen 5 = .ok (.ifCond .eq 16, 3) := by decide +kernel
theorem dX0_canStrengthen_8 : decode cX0_canStrengthen 8 = .ok (.iload_n 2, 1) := by decide +kernel
theorem dX0_canStrengthen_9 : decode cX0_canStrengthen 9 = .ok (.iconst 1, 1) := by decide +kernel
theorem dX0_canStrengthen_10 : decode cX0_canStrengthen 10 = .ok (.iconst 5, 1) := by decide +kernel
theorem dX0_canStrengthen_11 : decode cX0_canStrengthen 11 = .ok (.invokestatic 38, 3) := by decide +kernel
theorem dX0_canStrengthen_14 : decode cX0_canStrengthen 14 = .ok (.ifCond .eq 7, 3) := by decide +kernel
theorem dX0_canStrengthen_17 : decode cX0_canStrengthen 17 = .ok (.iconst 1, 1) := by decide +kernel
theorem dX0_canStrengthen_18 : decode cX0_canStrengthen 18 = .ok (.goto 4, 3) := by decide +kernel
theorem dX0_canStrengthen_21 : decode cX0_canStrengthen 21 = .ok (.iconst 0, 1) := by decide +kernel
theorem dX0_canStrengthen_22 : decode cX0_canStrengthen 22 = .ok (.ireturn, 1) := by decide +kernel
theorem dX0_strengthen_0 : decode cX0_strengthen 0 = .ok (.aload_n 0, 1) := by decide +kernel
theorem dX0_strengthen_1 : decode cX0_strengthen 1 = .ok (.getfield 21, 3) := by decide +kernel
theorem dX0_strengthen_4 : decode cX0_strengthen 4 = .ok (.iload_n 1, 1) := by decide +kernel
theorem dX0_strengthen_5 : decode cX0_strengthen 5 = .ok (.iaload, 1) := by decide +kernel
theorem dX0_strengthen_6 : decode cX0_strengthen 6 = .ok (.istore_n 3, 1) := by decide +kernel
theorem dX0_strengthen_7 : decode cX0_strengthen 7 = .ok (.aload_n 0, 1) := by decide +kernel
theorem dX0_strengthen_8 : decode cX0_strengthen 8 = .ok (.getfield 21, 3) := by decide +kernel
theorem dX0_strengthen_11 : decode cX0_strengthen 11 = .ok (.iload_n 1, 1) := by decide +kernel
theorem dX0_strengthen_12 : decode cX0_strengthen 12 = .ok (.iload_n 2, 1) := by decide +kernel
theorem dX0_strengthen_13 : decode cX0_strengthen 13 = .ok (.iastore, 1) := by decide +kernel
theorem dX0_strengthen_14 : decode cX0_strengthen 14 = .ok (.iload_n 3, 1) := by decide +kernel
theorem dX0_strengthen_15 : decode cX0_strengthen 15 = .ok (.ireturn, 1) := by decide +kernel
theorem dX0_canBound_0 : decode cX0_canBound 0 = .ok (.aload_n 0, 1) := by decide +kernel
theorem dX0_canBound_1 : decode cX0_canBound 1 = .ok (.iload_n 1, 1) := by decide +kernel
theorem dX0_canBound_2 : decode cX0_canBound 2 = .ok (.invokevirtual 46, 3) := by decide +kernel
theorem dX0_canBound_5 : decode cX0_canBound 5 = .ok (.ifCond .eq 18, 3) := by decide +kernel
theorem dX0_canBound_8 : decode cX0_canBound 8 = .ok (.iload_n 2, 1) := by decide +kernel
theorem dX0_canBound_9 : decode cX0_canBound 9 = .ok (.iconst 1, 1) := by decide +kernel
theorem dX0_canBound_10 : decode cX0_canBound 10 = .ok (.sipush 999, 3) := by decide +kernel
theorem dX0_canBound_13 : decode cX0_canBound 13 = .ok (.invokestatic 38, 3) := by decide +kernel
theorem dX0_canBound_16 : decode cX0_canBound 16 = .ok (.ifCond .eq 7, 3) := by decide +kernel
theorem dX0_canBound_19 : decode cX0_canBound 19 = .ok (.iconst 1, 1) := by decide +kernel
theorem dX0_canBound_20 : decode cX0_canBound 20 = .ok (.goto 4, 3) := by decide +kernel
theorem dX0_canBound_23 : decode cX0_canBound 23 = .ok (.iconst 0, 1) := by decide +kernel
theorem dX0_canBound_24 : decode cX0_canBound 24 = .ok (.ireturn, 1) := by decide +kernel
theorem dX0_bound_0 : decode cX0_bound 0 = .ok (.aload_n 0, 1) := by decide +kernel
theorem dX0_bound_1 : decode cX0_bound 1 = .ok (.getfield 24, 3) := by decide +kernel
theorem dX0_bound_4 : decode cX0_bound 4 = .ok (.iload_n 1, 1) := by decide +kernel
theorem dX0_bound_5 : decode cX0_bound 5 = .ok (.iaload, 1) := by decide +kernel
theorem dX0_bound_6 : decode cX0_bound 6 = .ok (.istore_n 3, 1) := by decide +kernel
theorem dX0_bound_7 : decode cX0_bound 7 = .ok (.aload_n 0, 1) := by decide +kernel
theorem dX0_bound_8 : decode cX0_bound 8 = .ok (.getfield 24, 3) := by decide +kernel
theorem dX0_bound_11 : decode cX0_bound 11 = .ok (.iload_n 1, 1) := by decide +kernel
theorem dX0_bound_12 : decode cX0_bound 12 = .ok (.iload_n 2, 1) := by decide +kernel
theorem dX0_bound_13 : decode cX0_bound 13 = .ok (.iastore, 1) := by decide +kernel
theorem dX0_bound_14 : decode cX0_bound 14 = .ok (.iload_n 3, 1) := by decide +kernel
theorem dX0_bound_15 : decode cX0_bound 15 = .ok (.ireturn, 1) := by decide +kernel
theorem dX0_copy_0 : decode cX0_copy 0 = .ok (.aload_n 0, 1) := by decide +kernel
theorem dX0_copy_1 : decode cX0_copy 1 = .ok (.aload_n 1, 1) := by decide +kernel
theorem dX0_copy_2 : decode cX0_copy 2 = .ok (.getfield 31, 3) := by decide +kernel
theorem dX0_copy_5 : decode cX0_copy 5 = .ok (.putfield 31, 3) := by decide +kernel
theorem dX0_copy_8 : decode cX0_copy 8 = .ok (.aload_n 0, 1) := by decide +kernel
theorem dX0_copy_9 : decode cX0_copy 9 = .ok (.aload_n 1, 1) := by decide +kernel
theorem dX0_copy_10 : decode cX0_copy 10 = .ok (.getfield 35, 3) := by decide +kernel
theorem dX0_copy_13 : decode cX0_copy 13 = .ok (.putfield 35, 3) := by decide +kernel
theorem dX0_copy_16 : decode cX0_copy 16 = .ok (.iconst 0, 1) := by decide +kernel
theorem dX0_copy_17 : decode cX0_copy 17 = .ok (.istore_n 2, 1) := by decide +kernel
theorem dX0_copy_18 : decode cX0_copy 18 = .ok (.iload_n 2, 1) := by decide +kernel
theorem dX0_copy_19 : decode cX0_copy 19 = .ok (.bipush 6, 2) := by decide +kernel
theorem dX0_copy_21 : decode cX0_copy 21 = .ok (.if_icmp .ge 21, 3) := by decide +kernel
theorem dX0_copy_24 : decode cX0_copy 24 = .ok (.aload_n 0, 1) := by decide +kernel
theorem dX0_copy_25 : decode cX0_copy 25 = .ok (.getfield 9, 3) := by decide +kernel
theorem dX0_copy_28 : decode cX0_copy 28 = .ok (.iload_n 2, 1) := by decide +kernel
theorem dX0_copy_29 : decode cX0_copy 29 = .ok (.aload_n 1, 1) := by decide +kernel
theorem dX0_copy_30 : decode cX0_copy 30 = .ok (.getfield 9, 3) := by decide +kernel
theorem dX0_copy_33 : decode cX0_copy 33 = .ok (.iload_n 2, 1) := by decide +kernel
theorem dX0_copy_34 : decode cX0_copy 34 = .ok (.iaload, 1) := by decide +kernel
theorem dX0_copy_35 : decode cX0_copy 35 = .ok (.iastore, 1) := by decide +kernel
theorem dX0_copy_36 : decode cX0_copy 36 = .ok (.iinc 2 1, 3) := by decide +kernel
theorem dX0_copy_39 : decode cX0_copy 39 = .ok (.goto (-21), 3) := by decide +kernel
theorem dX0_copy_42 : decode cX0_copy 42 = .ok (.iconst 0, 1) := by decide +kernel
theorem dX0_copy_43 : decode cX0_copy 43 = .ok (.istore_n 2, 1) := by decide +kernel
theorem dX0_copy_44 : decode cX0_copy 44 = .ok (.iload_n 2, 1) := by decide +kernel
theorem dX0_copy_45 : decode cX0_copy 45 = .ok (.bipush 10, 2) := by decide +kernel
theorem dX0_copy_47 : decode cX0_copy 47 = .ok (.if_icmp .ge 69, 3) := by decide +kernel
theorem dX0_copy_50 : decode cX0_copy 50 = .ok (.aload_n 0, 1) := by decide +kernel
theorem dX0_copy_51 : decode cX0_copy 51 = .ok (.getfield 15, 3) := by decide +kernel
theorem dX0_copy_54 : decode cX0_copy 54 = .ok (.iload_n 2, 1) := by decide +kernel
theorem dX0_copy_55 : decode cX0_copy 55 = .ok (.aload_n 1, 1) := by decide +kernel
theorem dX0_copy_56 : decode cX0_copy 56 = .ok (.getfield 15, 3) := by decide +kernel
theorem dX0_copy_59 : decode cX0_copy 59 = .ok (.iload_n 2, 1) := by decide +kernel
theorem dX0_copy_60 : decode cX0_copy 60 = .ok (.iaload, 1) := by decide +kernel
theorem dX0_copy_61 : decode cX0_copy 61 = .ok (.iastore, 1) := by decide +kernel
theorem dX0_copy_62 : decode cX0_copy 62 = .ok (.aload_n 0, 1) := by decide +kernel
theorem dX0_copy_63 : decode cX0_copy 63 = .ok (.getfield 18, 3) := by decide +kernel
theorem dX0_copy_66 : decode cX0_copy 66 = .ok (.iload_n 2, 1) := by decide +kernel
theorem dX0_copy_67 : decode cX0_copy 67 = .ok (.aload_n 1, 1) := by decide +kernel
theorem dX0_copy_68 : decode cX0_copy 68 = .ok (.getfield 18, 3) := by decide +kernel
theorem dX0_copy_71 : decode cX0_copy 71 = .ok (.iload_n 2, 1) := by decide +kernel
theorem dX0_copy_72 : decode cX0_copy 72 = .ok (.iaload, 1) := by decide +kernel
theorem dX0_copy_73 : decode cX0_copy 73 = .ok (.iastore, 1) := by decide +kernel
theorem dX0_copy_74 : decode cX0_copy 74 = .ok (.aload_n 0, 1) := by decide +kernel
theorem dX0_copy_75 : decode cX0_copy 75 = .ok (.getfield 21, 3) := by decide +kernel
theorem dX0_copy_78 : decode cX0_copy 78 = .ok (.iload_n 2, 1) := by decide +kernel
theorem dX0_copy_79 : decode cX0_copy 79 = .ok (.aload_n 1, 1) := by decide +kernel
theorem dX0_copy_80 : decode cX0_copy 80 = .ok (.getfield 21, 3) := by decide +kernel
theorem dX0_copy_83 : decode cX0_copy 83 = .ok (.iload_n 2, 1) := by decide +kernel
theorem dX0_copy_84 : decode cX0_copy 84 = .ok (.iaload, 1) := by decide +kernel
theorem dX0_copy_85 : decode cX0_copy 85 = .ok (.iastore, 1) := by decide +kernel
theorem dX0_copy_86 : decode cX0_copy 86 = .ok (.aload_n 0, 1) := by decide +kernel
theorem dX0_copy_87 : decode cX0_copy 87 = .ok (.getfield 24, 3) := by decide +kernel
theorem dX0_copy_90 : decode cX0_copy 90 = .ok (.iload_n 2, 1) := by decide +kernel
theorem dX0_copy_91 : decode cX0_copy 91 = .ok (.aload_n 1, 1) := by decide +kernel
theorem dX0_copy_92 : decode cX0_copy 92 = .ok (.getfield 24, 3) := by decide +kernel
theorem dX0_copy_95 : decode cX0_copy 95 = .ok (.iload_n 2, 1) := by decide +kernel
theorem dX0_copy_96 : decode cX0_copy 96 = .ok (.iaload, 1) := by decide +kernel
theorem dX0_copy_97 : decode cX0_copy 97 = .ok (.iastore, 1) := by decide +kernel
theorem dX0_copy_98 : decode cX0_copy 98 = .ok (.aload_n 0, 1) := by decide +kernel
theorem dX0_copy_99 : decode cX0_copy 99 = .ok (.getfield 27, 3) := by decide +kernel
theorem dX0_copy_102 : decode cX0_copy 102 = .ok (.iload_n 2, 1) := by decide +kernel
theorem dX0_copy_103 : decode cX0_copy 103 = .ok (.aload_n 1, 1) := by decide +kernel
theorem dX0_copy_104 : decode cX0_copy 104 = .ok (.getfield 27, 3) := by decide +kernel
theorem dX0_copy_107 : decode cX0_copy 107 = .ok (.iload_n 2, 1) := by decide +kernel
theorem dX0_copy_108 : decode cX0_copy 108 = .ok (.baload, 1) := by decide +kernel
theorem dX0_copy_109 : decode cX0_copy 109 = .ok (.bastore, 1) := by decide +kernel
theorem dX0_copy_110 : decode cX0_copy 110 = .ok (.iinc 2 1, 3) := by decide +kernel
theorem dX0_copy_113 : decode cX0_copy 113 = .ok (.goto (-69), 3) := by decide +kernel
theorem dX0_copy_116 : decode cX0_copy 116 = .ok (.return_, 1) := by decide +kernel
theorem dX1_init_0 : decode cX1_init 0 = .ok (.aload_n 0, 1) := by decide +kernel
theorem dX1_init_1 : decode cX1_init 1 = .ok (.invokespecial 3, 3) := by decide +kernel
theorem dX1_init_4 : decode cX1_init 4 = .ok (.aload_n 0, 1) := by decide +kernel
theorem dX1_init_5 : decode cX1_init 5 = .ok (.bipush 8, 2) := by decide +kernel
theorem dX1_init_7 : decode cX1_init 7 = .ok (.anewarray 9, 3) := by decide +kernel
theorem dX1_init_10 : decode cX1_init 10 = .ok (.putfield 11, 3) := by decide +kernel
theorem dX1_init_13 : decode cX1_init 13 = .ok (.iconst 0, 1) := by decide +kernel
theorem dX1_init_14 : decode cX1_init 14 = .ok (.istore_n 1, 1) := by decide +kernel
theorem dX1_init_15 : decode cX1_init 15 = .ok (.iload_n 1, 1) := by decide +kernel
theorem dX1_init_16 : decode cX1_init 16 = .ok (.bipush 8, 2) := by decide +kernel
theorem dX1_init_18 : decode cX1_init 18 = .ok (.if_icmp .ge 22, 3) := by decide +kernel
theorem dX1_init_21 : decode cX1_init 21 = .ok (.aload_n 0, 1) := by decide +kernel
theorem dX1_init_22 : decode cX1_init 22 = .ok (.getfield 11, 3) := by decide +kernel
theorem dX1_init_25 : decode cX1_init 25 = .ok (.iload_n 1, 1) := by decide +kernel
theorem dX1_init_26 : decode cX1_init 26 = .ok (.new 9, 3) := by decide +kernel
theorem dX1_init_29 : decode cX1_init 29 = .ok (.dup, 1) := by decide +kernel
theorem dX1_init_30 : decode cX1_init 30 = .ok (.invokespecial 17, 3) := by decide +kernel
theorem dX1_init_33 : decode cX1_init 33 = .ok (.aastore, 1) := by decide +kernel
theorem dX1_init_34 : decode cX1_init 34 = .ok (.iinc 1 1, 3) := by decide +kernel
theorem dX1_init_37 : decode cX1_init 37 = .ok (.goto (-22), 3) := by decide +kernel
theorem dX1_init_40 : decode cX1_init 40 = .ok (.return_, 1) := by decide +kernel
theorem dX1_keep_0 : decode cX1_keep 0 = .ok (.aload_n 0, 1) := by decide +kernel
theorem dX1_keep_1 : decode cX1_keep 1 = .ok (.getfield 18, 3) := by decide +kernel
theorem dX1_keep_4 : decode cX1_keep 4 = .ok (.bipush 8, 2) := by decide +kernel
theorem dX1_keep_6 : decode cX1_keep 6 = .ok (.if_icmp .ne 26, 3) := by decide +kernel
theorem dX1_keep_9 : decode cX1_keep 9 = .ok (.aload_n 0, 1) := by decide +kernel
theorem dX1_keep_10 : decode cX1_keep 10 = .ok (.aload_n 0, 1) := by decide +kernel
theorem dX1_keep_11 : decode cX1_keep 11 = .ok (.getfield 22, 3) := by decide +kernel
theorem dX1_keep_14 : decode cX1_keep 14 = .ok (.iconst 1, 1) := by decide +kernel
theorem dX1_keep_15 : decode cX1_keep 15 = .ok (.iadd, 1) := by decide +kernel
theorem dX1_keep_16 : decode cX1_keep 16 = .ok (.bipush 8, 2) := by decide +kernel
theorem dX1_keep_18 : decode cX1_keep 18 = .ok (.irem, 1) := by decide +kernel
theorem dX1_keep_19 : decode cX1_keep 19 = .ok (.putfield 22, 3) := by decide +kernel
theorem dX1_keep_22 : decode cX1_keep 22 = .ok (.aload_n 0, 1) := by decide +kernel
theorem dX1_keep_23 : decode cX1_keep 23 = .ok (.dup, 1) := by decide +kernel
theorem dX1_keep_24 : decode cX1_keep 24 = .ok (.getfield 18, 3) := by decide +kernel
theorem dX1_keep_27 : decode cX1_keep 27 = .ok (.iconst 1, 1) := by decide +kernel
theorem dX1_keep_28 : decode cX1_keep 28 = .ok (.isub, 1) := by decide +kernel
theorem dX1_keep_29 : decode cX1_keep 29 = .ok (.putfield 18, 3) := by decide +kernel
theorem dX1_keep_32 : decode cX1_keep 32 = .ok (.aload_n 0, 1) := by decide +kernel
theorem dX1_keep_33 : decode cX1_keep 33 = .ok (.getfield 11, 3) := by decide +kernel
theorem dX1_keep_36 : decode cX1_keep 36 = .ok (.aload_n 0, 1) := by decide +kernel
theorem dX1_keep_37 : decode cX1_keep 37 = .ok (.getfield 22, 3) := by decide +kernel
theorem dX1_keep_40 : decode cX1_keep 40 = .ok (.aload_n 0, 1) := by decide +kernel
theorem dX1_keep_41 : decode cX1_keep 41 = .ok (.getfield 18, 3) := by decide +kernel
theorem dX1_keep_44 : decode cX1_keep 44 = .ok (.iadd, 1) := by decide +kernel
theorem dX1_keep_45 : decode cX1_keep 45 = .ok (.bipush 8, 2) := by decide +kernel
theorem dX1_keep_47 : decode cX1_keep 47 = .ok (.irem, 1) := by decide +kernel
theorem dX1_keep_48 : decode cX1_keep 48 = .ok (.aaload, 1) := by decide +kernel
theorem dX1_keep_49 : decode cX1_keep 49 = .ok (.astore_n 2, 1) := by decide +kernel
theorem dX1_keep_50 : decode cX1_keep 50 = .ok (.aload_n 2, 1) := by decide +kernel
theorem dX1_keep_51 : decode cX1_keep 51 = .ok (.ifnull 8, 3) := by decide +kernel
theorem dX1_keep_54 : decode cX1_keep 54 = .ok (.aload_n 2, 1) := by decide +kernel
theorem dX1_keep_55 : decode cX1_keep 55 = .ok (.aload_n 1, 1) := by decide +kernel
theorem dX1_keep_56 : decode cX1_keep 56 = .ok (.invokevirtual 25, 3) := by decide +kernel
theorem dX1_keep_59 : decode cX1_keep 59 = .ok (.aload_n 0, 1) := by decide +kernel
theorem dX1_keep_60 : decode cX1_keep 60 = .ok (.dup, 1) := by decide +kernel
theorem dX1_keep_61 : decode cX1_keep 61 = .ok (.getfield 18, 3) := by decide +kernel
theorem dX1_keep_64 : decode cX1_keep 64 = .ok (.iconst 1, 1) := by decide +kernel
theorem dX1_keep_65 : decode cX1_keep 65 = .ok (.iadd, 1) := by decide +kernel
theorem dX1_keep_66 : decode cX1_keep 66 = .ok (.putfield 18, 3) := by decide +kernel
theorem dX1_keep_69 : decode cX1_keep 69 = .ok (.return_, 1) := by decide +kernel
theorem dX1_restore_0 : decode cX1_restore 0 = .ok (.aload_n 0, 1) := by decide +kernel
theorem dX1_restore_1 : decode cX1_restore 1 = .ok (.dup, 1) := by decide +kernel
theorem dX1_restore_2 : decode cX1_restore 2 = .ok (.getfield 18, 3) := by decide +kernel
theorem dX1_restore_5 : decode cX1_restore 5 = .ok (.iconst 1, 1) := by decide +kernel
theorem dX1_restore_6 : decode cX1_restore 6 = .ok (.isub, 1) := by decide +kernel
theorem dX1_restore_7 : decode cX1_restore 7 = .ok (.putfield 18, 3) := by decide +kernel
theorem dX1_restore_10 : decode cX1_restore 10 = .ok (.aload_n 0, 1) := by decide +kernel
theorem dX1_restore_11 : decode cX1_restore 11 = .ok (.getfield 11, 3) := by decide +kernel
theorem dX1_restore_14 : decode cX1_restore 14 = .ok (.aload_n 0, 1) := by decide +kernel
theorem dX1_restore_15 : decode cX1_restore 15 = .ok (.getfield 22, 3) := by decide +kernel
theorem dX1_restore_18 : decode cX1_restore 18 = .ok (.aload_n 0, 1) := by decide +kernel
theorem dX1_restore_19 : decode cX1_restore 19 = .ok (.getfield 18, 3) := by decide +kernel
theorem dX1_restore_22 : decode cX1_restore 22 = .ok (.iadd, 1) := by decide +kernel
theorem dX1_restore_23 : decode cX1_restore 23 = .ok (.bipush 8, 2) := by decide +kernel
theorem dX1_restore_25 : decode cX1_restore 25 = .ok (.irem, 1) := by decide +kernel
theorem dX1_restore_26 : decode cX1_restore 26 = .ok (.aaload, 1) := by decide +kernel
theorem dX1_restore_27 : decode cX1_restore 27 = .ok (.astore_n 2, 1) := by decide +kernel
theorem dX1_restore_28 : decode cX1_restore 28 = .ok (.aload_n 2, 1) := by decide +kernel
theorem dX1_restore_29 : decode cX1_restore 29 = .ok (.ifnull 8, 3) := by decide +kernel
theorem dX1_restore_32 : decode cX1_restore 32 = .ok (.aload_n 1, 1) := by decide +kernel
theorem dX1_restore_33 : decode cX1_restore 33 = .ok (.aload_n 2, 1) := by decide +kernel
theorem dX1_restore_34 : decode cX1_restore 34 = .ok (.invokevirtual 25, 3) := by decide +kernel
theorem dX1_restore_37 : decode cX1_restore 37 = .ok (.aload_n 0, 1) := by decide +kernel
theorem dX1_restore_38 : decode cX1_restore 38 = .ok (.getfield 18, 3) := by decide +kernel
theorem dX1_restore_41 : decode cX1_restore 41 = .ok (.ireturn, 1) := by decide +kernel
theorem dX2_init_0 : decode cX2_init 0 = .ok (.aload_n 0, 1) := by decide +kernel
theorem dX2_init_1 : decode cX2_init 1 = .ok (.invokespecial 3, 3) := by decide +kernel
theorem dX2_init_4 : decode cX2_init 4 = .ok (.aload_n 0, 1) := by decide +kernel
theorem dX2_init_5 : decode cX2_init 5 = .ok (.bipush 45, 2) := by decide +kernel
theorem dX2_init_7 : decode cX2_init 7 = .ok (.newarray .int, 2) := by decide +kernel
theorem dX2_init_9 : decode cX2_init 9 = .ok (.putfield 9, 3) := by decide +kernel
theorem dX2_init_12 : decode cX2_init 12 = .ok (.aload_n 0, 1) := by decide +kernel
theorem dX2_init_13 : decode cX2_init 13 = .ok (.bipush 45, 2) := by decide +kernel
theorem dX2_init_15 : decode cX2_init 15 = .ok (.newarray .int, 2) := by decide +kernel
theorem dX2_init_17 : decode cX2_init 17 = .ok (.putfield 15, 3) := by decide +kernel
theorem dX2_init_20 : decode cX2_init 20 = .ok (.aload_n 0, 1) := by decide +kernel
theorem dX2_init_21 : decode cX2_init 21 = .ok (.bipush 45, 2) := by decide +kernel
theorem dX2_init_23 : decode cX2_init 23 = .ok (.newarray .long, 2) := by decide +kernel
theorem dX2_init_25 : decode cX2_init 25 = .ok (.putfield 18, 3) := by decide +kernel
theorem dX2_init_28 : decode cX2_init 28 = .ok (.aload_n 0, 1) := by decide +kernel
theorem dX2_init_29 : decode cX2_init 29 = .ok (.bipush 45, 2) := by decide +kernel
theorem dX2_init_31 : decode cX2_init 31 = .ok (.newarray .long, 2) := by decide +kernel
theorem dX2_init_33 : decode cX2_init 33 = .ok (.putfield 22, 3) := by decide +kernel
theorem dX2_init_36 : decode cX2_init 36 = .ok (.return_, 1) := by decide +kernel
theorem dX2_has_0 : decode cX2_has 0 = .ok (.iload_n 1, 1) := by decide +kernel
theorem dX2_has_1 : decode cX2_has 1 = .ok (.ifCond .lt 15, 3) := by decide +kernel
theorem dX2_has_4 : decode cX2_has 4 = .ok (.iload_n 1, 1) := by decide +kernel
theorem dX2_has_5 : decode cX2_has 5 = .ok (.aload_n 0, 1) := by decide +kernel
theorem dX2_has_6 : decode cX2_has 6 = .ok (.getfield 25, 3) := by decide +kernel
theorem dX2_has_9 : decode cX2_has 9 = .ok (.if_icmp .ge 7, 3) := by decide +kernel
theorem dX2_has_12 : decode cX2_has 12 = .ok (.iconst 1, 1) := by decide +kernel
theorem dX2_has_13 : decode cX2_has 13 = .ok (.goto 4, 3) := by decide +kernel
theorem dX2_has_16 : decode cX2_has 16 = .ok (.iconst 0, 1) := by decide +kernel
theorem dX2_has_17 : decode cX2_has 17 = .ok (.ireturn, 1) := by decide +kernel
theorem dX2_insert_0 : decode cX2_insert 0 = .ok (.aload_n 0, 1) := by decide +kernel
theorem dX2_insert_1 : decode cX2_insert 1 = .ok (.getfield 25, 3) := by decide +kernel
theorem dX2_insert_4 : decode cX2_insert 4 = .ok (.bipush 45, 2) := by decide +kernel
theorem dX2_insert_6 : decode cX2_insert 6 = .ok (.if_icmp .lt 4, 3) := by decide +kernel
theorem dX2_insert_9 : decode cX2_insert 9 = .ok (.return_, 1) := by decide +kernel
theorem dX2_insert_10 : decode cX2_insert 10 = .ok (.aload_n 0, 1) := by decide +kernel
theorem dX2_insert_11 : decode cX2_insert 11 = .ok (.getfield 25, 3) := by decide +kernel
theorem dX2_insert_14 : decode cX2_insert 14 = .ok (.istore 7, 2) := by decide +kernel
theorem dX2_insert_16 : decode cX2_insert 16 = .ok (.iload 7, 2) := by decide +kernel
theorem dX2_insert_18 : decode cX2_insert 18 = .ok (.ifCond .le 100, 3) := by decide +kernel
theorem dX2_insert_21 : decode cX2_insert 21 = .ok (.lload_n 3, 1) := by decide +kernel
theorem dX2_insert_22 : decode cX2_insert 22 = .ok (.lload 5, 2) := by decide +kernel
theorem dX2_insert_24 : decode cX2_insert 24 = .ok (.aload_n 0, 1) := by decide +kernel
theorem dX2_insert_25 : decode cX2_insert 25 = .ok (.getfield 18, 3) := by decide +kernel
theorem dX2_insert_28 : decode cX2_insert 28 = .ok (.iload 7, 2) := by decide +kernel
theorem dX2_insert_30 : decode cX2_insert 30 = .ok (.iconst 1, 1) := by decide +kernel
theorem dX2_insert_31 : decode cX2_insert 31 = .ok (.isub, 1) := by decide +kernel
theorem dX2_insert_32 : decode cX2_insert 32 = .ok (.laload, 1) := by decide +kernel
theorem dX2_insert_33 : decode cX2_insert 33 = .ok (.aload_n 0, 1) := by decide +kernel
theorem dX2_insert_34 : decode cX2_insert 34 = .ok (.getfield 22, 3) := by decide +kernel
theorem dX2_insert_37 : decode cX2_insert 37 = .ok (.iload 7, 2) := by decide +kernel
theorem dX2_insert_39 : decode cX2_insert 39 = .ok (.iconst 1, 1) := by decide +kernel
theorem dX2_insert_40 : decode cX2_insert 40 = .ok (.isub, 1) := by decide +kernel
theorem dX2_insert_41 : decode cX2_insert 41 = .ok (.laload, 1) := by decide +kernel
theorem dX2_insert_42 : decode cX2_insert 42 = .ok (.invokestatic 29, 3) := by decide +kernel
theorem dX2_insert_45 : decode cX2_insert 45 = .ok (.ifCond .eq 73, 3) := by decide +kernel
theorem dX2_insert_48 : decode cX2_insert 48 = .ok (.aload_n 0, 1) := by decide +kernel
theorem dX2_insert_49 : decode cX2_insert 49 = .ok (.getfield 9, 3) := by decide +kernel
theorem dX2_insert_52 : decode cX2_insert 52 = .ok (.iload 7, 2) := by decide +kernel
theorem dX2_insert_54 : decode cX2_insert 54 = .ok (.aload_n 0, 1) := by decide +kernel
theorem dX2_insert_55 : decode cX2_insert 55 = .ok (.getfield 9, 3) := by decide +kernel
theorem dX2_insert_58 : decode cX2_insert 58 = .ok (.iload 7, 2) := by decide +kernel
theorem dX2_insert_60 : decode cX2_insert 60 = .ok (.iconst 1, 1) := by decide +kernel
theorem dX2_insert_61 : decode cX2_insert 61 = .ok (.isub, 1) := by decide +kernel
theorem dX2_insert_62 : decode cX2_insert 62 = .ok (.iaload, 1) := by decide +kernel
theorem dX2_insert_63 : decode cX2_insert 63 = .ok (.iastore, 1) := by decide +kernel
theorem dX2_insert_64 : decode cX2_insert 64 = .ok (.aload_n 0, 1) := by decide +kernel
theorem dX2_insert_65 : decode cX2_insert 65 = .ok (.getfield 15, 3) := by decide +kernel
theorem dX2_insert_68 : decode cX2_insert 68 = .ok (.iload 7, 2) := by decide +kernel
theorem dX2_insert_70 : decode cX2_insert 70 = .ok (.aload_n 0, 1) := by decide +kernel
theorem dX2_insert_71 : decode cX2_insert 71 = .ok (.getfield 15, 3) := by decide +kernel
theorem dX2_insert_74 : decode cX2_insert 74 = .ok (.iload 7, 2) := by decide +kernel
theorem dX2_insert_76 : decode cX2_insert 76 = .ok (.iconst 1, 1) := by decide +kernel
theorem dX2_insert_77 : decode cX2_insert 77 = .ok (.isub, 1) := by decide +kernel
theorem dX2_insert_78 : decode cX2_insert 78 = .ok (.iaload, 1) := by decide +kernel
theorem dX2_insert_79 : decode cX2_insert 79 = .ok (.iastore, 1) := by decide +kernel
theorem dX2_insert_80 : decode cX2_insert 80 = .ok (.aload_n 0, 1) := by decide +kernel
theorem dX2_insert_81 : decode cX2_insert 81 = .ok (.getfield 18, 3) := by decide +kernel
theorem dX2_insert_84 : decode cX2_insert 84 = .ok (.iload 7, 2) := by decide +kernel
theorem dX2_insert_86 : decode cX2_insert 86 = .ok (.aload_n 0, 1) := by decide +kernel
theorem dX2_insert_87 : decode cX2_insert 87 = .ok (.getfield 18, 3) := by decide +kernel
theorem dX2_insert_90 : decode cX2_insert 90 = .ok (.iload 7, 2) := by decide +kernel
theorem dX2_insert_92 : decode cX2_insert 92 = .ok (.iconst 1, 1) := by decide +kernel
theorem dX2_insert_93 : decode cX2_insert 93 = .ok (.isub, 1) := by decide +kernel
theorem dX2_insert_94 : decode cX2_insert 94 = .ok (.laload, 1) := by decide +kernel
theorem dX2_insert_95 : decode cX2_insert 95 = .ok (.lastore, 1) := by decide +kernel
theorem dX2_insert_96 : decode cX2_insert 96 = .ok (.aload_n 0, 1) := by decide +kernel
theorem dX2_insert_97 : decode cX2_insert 97 = .ok (.getfield 22, 3) := by decide +kernel
theorem dX2_insert_100 : decode cX2_insert 100 = .ok (.iload 7, 2) := by decide +kernel
theorem dX2_insert_102 : decode cX2_insert 102 = .ok (.aload_n 0, 1) := by decide +kernel
theorem dX2_insert_103 : decode cX2_insert 103 = .ok (.getfield 22, 3) := by decide +kernel
theorem dX2_insert_106 : decode cX2_insert 106 = .ok (.iload 7, 2) := by decide +kernel
theorem dX2_insert_108 : decode cX2_insert 108 = .ok (.iconst 1, 1) := by decide +kernel
theorem dX2_insert_109 : decode cX2_insert 109 = .ok (.isub, 1) := by decide +kernel
theorem dX2_insert_110 : decode cX2_insert 110 = .ok (.laload, 1) := by decide +kernel
theorem dX2_insert_111 : decode cX2_insert 111 = .ok (.lastore, 1) := by decide +kernel
theorem dX2_insert_112 : decode cX2_insert 112 = .ok (.iinc 7 (-1), 3) := by decide +kernel
theorem dX2_insert_115 : decode cX2_insert 115 = .ok (.goto (-99), 3) := by decide +kernel
theorem dX2_insert_118 : decode cX2_insert 118 = .ok (.aload_n 0, 1) := by decide +kernel
theorem dX2_insert_119 : decode cX2_insert 119 = .ok (.getfield 9, 3) := by decide +kernel
theorem dX2_insert_122 : decode cX2_insert 122 = .ok (.iload 7, 2) := by decide +kernel
theorem dX2_insert_124 : decode cX2_insert 124 = .ok (.iload_n 1, 1) := by decide +kernel
theorem dX2_insert_125 : decode cX2_insert 125 = .ok (.iastore, 1) := by decide +kernel
theorem dX2_insert_126 : decode cX2_insert 126 = .ok (.aload_n 0, 1) := by decide +kernel
theorem dX2_insert_127 : decode cX2_insert 127 = .ok (.getfield 15, 3) := by decide +kernel
theorem dX2_insert_130 : decode cX2_insert 130 = .ok (.iload 7, 2) := by decide +kernel
theorem dX2_insert_132 : decode cX2_insert 132 = .ok (.iload_n 2, 1) := by decide +kernel
theorem dX2_insert_133 : decode cX2_insert 133 = .ok (.iastore, 1) := by decide +kernel
theorem dX2_insert_134 : decode cX2_insert 134 = .ok (.aload_n 0, 1) := by decide +kernel
theorem dX2_insert_135 : decode cX2_insert 135 = .ok (.getfield 18, 3) := by decide +kernel
theorem dX2_insert_138 : decode cX2_insert 138 = .ok (.iload 7, 2) := by decide +kernel
theorem dX2_insert_140 : decode cX2_insert 140 = .ok (.lload_n 3, 1) := by decide +kernel
theorem dX2_insert_141 : decode cX2_insert 141 = .ok (.lastore, 1) := by decide +kernel
theorem dX2_insert_142 : decode cX2_insert 142 = .ok (.aload_n 0, 1) := by decide +kernel
theorem dX2_insert_143 : decode cX2_insert 143 = .ok (.getfield 22, 3) := by decide +kernel
theorem dX2_insert_146 : decode cX2_insert 146 = .ok (.iload 7, 2) := by decide +kernel
theorem dX2_insert_148 : decode cX2_insert 148 = .ok (.lload 5, 2) := by decide +kernel
theorem dX2_insert_150 : decode cX2_insert 150 = .ok (.lastore, 1) := by decide +kernel
theorem dX2_insert_151 : decode cX2_insert 151 = .ok (.aload_n 0, 1) := by decide +kernel
theorem dX2_insert_152 : decode cX2_insert 152 = .ok (.dup, 1) := by decide +kernel
theorem dX2_insert_153 : decode cX2_insert 153 = .ok (.getfield 25, 3) := by decide +kernel
theorem dX2_insert_156 : decode cX2_insert 156 = .ok (.iconst 1, 1) := by decide +kernel
theorem dX2_insert_157 : decode cX2_insert 157 = .ok (.iadd, 1) := by decide +kernel
theorem dX2_insert_158 : decode cX2_insert 158 = .ok (.putfield 25, 3) := by decide +kernel
theorem dX2_insert_161 : decode cX2_insert 161 = .ok (.return_, 1) := by decide +kernel
theorem dX2_overloaded_0 : decode cX2_overloaded 0 = .ok (.iconst 0, 1) := by decide +kernel
theorem dX2_overloaded_1 : decode cX2_overloaded 1 = .ok (.istore_n 1, 1) := by decide +kernel
theorem dX2_overloaded_2 : decode cX2_overloaded 2 = .ok (.iconst 0, 1) := by decide +kernel
theorem dX2_overloaded_3 : decode cX2_overloaded 3 = .ok (.istore_n 2, 1) := by decide +kernel
theorem dX2_overloaded_4 : decode cX2_overloaded 4 = .ok (.iload_n 2, 1) := by decide +kernel
theorem dX2_overloaded_5 : decode cX2_overloaded 5 = .ok (.aload_n 0, 1) := by decide +kernel
theorem dX2_overloaded_6 : decode cX2_overloaded 6 = .ok (.getfield 25, 3) := by decide +kernel
theorem dX2_overloaded_9 : decode cX2_overloaded 9 = .ok (.if_icmp .ge 28, 3) := by decide +kernel
theorem dX2_overloaded_12 : decode cX2_overloaded 12 = .ok (.aload_n 0, 1) := by decide +kernel
theorem dX2_overloaded_13 : decode cX2_overloaded 13 = .ok (.getfield 18, 3) := by decide +kernel
theorem dX2_overloaded_16 : decode cX2_overloaded 16 = .ok (.iload_n 2, 1) := by decide +kernel
theorem dX2_overloaded_17 : decode cX2_overloaded 17 = .ok (.laload, 1) := by decide +kernel
theorem dX2_overloaded_18 : decode cX2_overloaded 18 = .ok (.aload_n 0, 1) := by decide +kernel
theorem dX2_overloaded_19 : decode cX2_overloaded 19 = .ok (.getfield 22, 3) := by decide +kernel
theorem dX2_overloaded_22 : decode cX2_overloaded 22 = .ok (.iload_n 2, 1) := by decide +kernel
theorem dX2_overloaded_23 : decode cX2_overloaded 23 = .ok (.laload, 1) := by decide +kernel
theorem dX2_overloaded_24 : decode cX2_overloaded 24 = .ok (.lcmp, 1) := by decide +kernel
theorem dX2_overloaded_25 : decode cX2_overloaded 25 = .ok (.ifCond .le 6, 3) := by decide +kernel
theorem dX2_overloaded_28 : decode cX2_overloaded 28 = .ok (.iinc 1 1, 3) := by decide +kernel
theorem dX2_overloaded_31 : decode cX2_overloaded 31 = .ok (.iinc 2 1, 3) := by decide +kernel
theorem dX2_overloaded_34 : decode cX2_overloaded 34 = .ok (.goto (-30), 3) := by decide +kernel
theorem dX2_overloaded_37 : decode cX2_overloaded 37 = .ok (.iload_n 1, 1) := by decide +kernel
theorem dX2_overloaded_38 : decode cX2_overloaded 38 = .ok (.ireturn, 1) := by decide +kernel
theorem dX3_init_0 : decode cX3_init 0 = .ok (.aload_n 0, 1) := by decide +kernel
theorem dX3_init_1 : decode cX3_init 1 = .ok (.invokespecial 3, 3) := by decide +kernel
theorem dX3_init_4 : decode cX3_init 4 = .ok (.aload_n 0, 1) := by decide +kernel
theorem dX3_init_5 : decode cX3_init 5 = .ok (.bipush 120, 2) := by decide +kernel
theorem dX3_init_7 : decode cX3_init 7 = .ok (.newarray .int, 2) := by decide +kernel
theorem dX3_init_9 : decode cX3_init 9 = .ok (.putfield 9, 3) := by decide +kernel
theorem dX3_init_12 : decode cX3_init 12 = .ok (.aload_n 0, 1) := by decide +kernel
theorem dX3_init_13 : decode cX3_init 13 = .ok (.iconst 4, 1) := by decide +kernel
theorem dX3_init_14 : decode cX3_init 14 = .ok (.newarray .int, 2) := by decide +kernel
theorem dX3_init_16 : decode cX3_init 16 = .ok (.putfield 15, 3) := by decide +kernel
theorem dX3_init_19 : decode cX3_init 19 = .ok (.return_, 1) := by decide +kernel
theorem dX3_isFull_0 : decode cX3_isFull 0 = .ok (.aload_n 0, 1) := by decide +kernel
theorem dX3_isFull_1 : decode cX3_isFull 1 = .ok (.getfield 18, 3) := by decide +kernel
theorem dX3_isFull_4 : decode cX3_isFull 4 = .ok (.bipush 120, 2) := by decide +kernel
theorem dX3_isFull_6 : decode cX3_isFull 6 = .ok (.if_icmp .lt 7, 3) := by decide +kernel
theorem dX3_isFull_9 : decode cX3_isFull 9 = .ok (.iconst 1, 1) := by decide +kernel
theorem dX3_isFull_10 : decode cX3_isFull 10 = .ok (.goto 4, 3) := by decide +kernel
theorem dX3_isFull_13 : decode cX3_isFull 13 = .ok (.iconst 0, 1) := by decide +kernel
theorem dX3_isFull_14 : decode cX3_isFull 14 = .ok (.ireturn, 1) := by decide +kernel
theorem dX3_append_0 : decode cX3_append 0 = .ok (.aload_n 0, 1) := by decide +kernel
theorem dX3_append_1 : decode cX3_append 1 = .ok (.getfield 9, 3) := by decide +kernel
theorem dX3_append_4 : decode cX3_append 4 = .ok (.aload_n 0, 1) := by decide +kernel
theorem dX3_append_5 : decode cX3_append 5 = .ok (.getfield 18, 3) := by decide +kernel
theorem dX3_append_8 : decode cX3_append 8 = .ok (.iload_n 1, 1) := by decide +kernel
theorem dX3_append_9 : decode cX3_append 9 = .ok (.iastore, 1) := by decide +kernel
theorem dX3_append_10 : decode cX3_append 10 = .ok (.aload_n 0, 1) := by decide +kernel
theorem dX3_append_11 : decode cX3_append 11 = .ok (.dup, 1) := by decide +kernel
theorem dX3_append_12 : decode cX3_append 12 = .ok (.getfield 18, 3) := by decide +kernel
theorem dX3_append_15 : decode cX3_append 15 = .ok (.iconst 1, 1) := by decide +kernel
theorem dX3_append_16 : decode cX3_append 16 = .ok (.iadd, 1) := by decide +kernel
theorem dX3_append_17 : decode cX3_append 17 = .ok (.putfield 18, 3) := by decide +kernel
theorem dX3_append_20 : decode cX3_append 20 = .ok (.aload_n 0, 1) := by decide +kernel
theorem dX3_append_21 : decode cX3_append 21 = .ok (.getfield 18, 3) := by decide +kernel
theorem dX3_append_24 : decode cX3_append 24 = .ok (.ireturn, 1) := by decide +kernel
theorem dX3_empty_0 : decode cX3_empty 0 = .ok (.aload_n 0, 1) := by decide +kernel
theorem dX3_empty_1 : decode cX3_empty 1 = .ok (.getfield 18, 3) := by decide +kernel
theorem dX3_empty_4 : decode cX3_empty 4 = .ok (.istore_n 1, 1) := by decide +kernel
theorem dX3_empty_5 : decode cX3_empty 5 = .ok (.aload_n 0, 1) := by decide +kernel
theorem dX3_empty_6 : decode cX3_empty 6 = .ok (.iconst 0, 1) := by decide +kernel
theorem dX3_empty_7 : decode cX3_empty 7 = .ok (.putfield 18, 3) := by decide +kernel
theorem dX3_empty_10 : decode cX3_empty 10 = .ok (.iload_n 1, 1) := by decide +kernel
theorem dX3_empty_11 : decode cX3_empty 11 = .ok (.ireturn, 1) := by decide +kernel
theorem dX3_rewind_0 : decode cX3_rewind 0 = .ok (.aload_n 0, 1) := by decide +kernel
theorem dX3_rewind_1 : decode cX3_rewind 1 = .ok (.iconst 0, 1) := by decide +kernel
theorem dX3_rewind_2 : decode cX3_rewind 2 = .ok (.putfield 22, 3) := by decide +kernel
theorem dX3_rewind_5 : decode cX3_rewind 5 = .ok (.return_, 1) := by decide +kernel
theorem dX3_findFault_0 : decode cX3_findFault 0 = .ok (.aload_n 0, 1) := by decide +kernel
theorem dX3_findFault_1 : decode cX3_findFault 1 = .ok (.invokevirtual 25, 3) := by decide +kernel
theorem dX3_findFault_4 : decode cX3_findFault 4 = .ok (.aload_n 0, 1) := by decide +kernel
theorem dX3_findFault_5 : decode cX3_findFault 5 = .ok (.invokevirtual 28, 3) := by decide +kernel
theorem dX3_findFault_8 : decode cX3_findFault 8 = .ok (.ifCond .ne 8, 3) := by decide +kernel
theorem dX3_findFault_11 : decode cX3_findFault 11 = .ok (.aload_n 0, 1) := by decide +kernel
theorem dX3_findFault_12 : decode cX3_findFault 12 = .ok (.getfield 18, 3) := by decide +kernel
theorem dX3_findFault_15 : decode cX3_findFault 15 = .ok (.ireturn, 1) := by decide +kernel
theorem dX3_findFault_16 : decode cX3_findFault 16 = .ok (.iconst 0, 1) := by decide +kernel
theorem dX3_findFault_17 : decode cX3_findFault 17 = .ok (.istore_n 1, 1) := by decide +kernel
theorem dX3_findFault_18 : decode cX3_findFault 18 = .ok (.iload_n 1, 1) := by decide +kernel
theorem dX3_findFault_19 : decode cX3_findFault 19 = .ok (.bipush 120, 2) := by decide +kernel
theorem dX3_findFault_21 : decode cX3_findFault 21 = .ok (.if_icmp .ge 28, 3) := by decide +kernel
theorem dX3_findFault_24 : decode cX3_findFault 24 = .ok (.aload_n 0, 1) := by decide +kernel
theorem dX3_findFault_25 : decode cX3_findFault 25 = .ok (.invokevirtual 28, 3) := by decide +kernel
theorem dX3_findFault_28 : decode cX3_findFault 28 = .ok (.ifCond .eq 21, 3) := by decide +kernel
theorem dX3_findFault_31 : decode cX3_findFault 31 = .ok (.aload_n 0, 1) := by decide +kernel
theorem dX3_findFault_32 : decode cX3_findFault 32 = .ok (.invokevirtual 32, 3) := by decide +kernel
theorem dX3_findFault_35 : decode cX3_findFault 35 = .ok (.ifCond .ne 8, 3) := by decide +kernel
theorem dX3_findFault_38 : decode cX3_findFault 38 = .ok (.aload_n 0, 1) := by decide +kernel
theorem dX3_findFault_39 : decode cX3_findFault 39 = .ok (.getfield 22, 3) := by decide +kernel
theorem dX3_findFault_42 : decode cX3_findFault 42 = .ok (.ireturn, 1) := by decide +kernel
theorem dX3_findFault_43 : decode cX3_findFault 43 = .ok (.iinc 1 1, 3) := by decide +kernel
theorem dX3_findFault_46 : decode cX3_findFault 46 = .ok (.goto (-28), 3) := by decide +kernel
theorem dX3_findFault_49 : decode cX3_findFault 49 = .ok (.iconst (-1), 1) := by decide +kernel
theorem dX3_findFault_50 : decode cX3_findFault 50 = .ok (.ireturn, 1) := by decide +kernel
theorem dX3_hasMore_0 : decode cX3_hasMore 0 = .ok (.aload_n 0, 1) := by decide +kernel
theorem dX3_hasMore_1 : decode cX3_hasMore 1 = .ok (.invokevirtual 35, 3) := by decide +kernel
theorem dX3_hasMore_4 : decode cX3_hasMore 4 = .ok (.aload_n 0, 1) := by decide +kernel
theorem dX3_hasMore_5 : decode cX3_hasMore 5 = .ok (.getfield 22, 3) := by decide +kernel
theorem dX3_hasMore_8 : decode cX3_hasMore 8 = .ok (.aload_n 0, 1) := by decide +kernel
theorem dX3_hasMore_9 : decode cX3_hasMore 9 = .ok (.getfield 18, 3) := by decide +kernel
theorem dX3_hasMore_12 : decode cX3_hasMore 12 = .ok (.if_icmp .ge 7, 3) := by decide +kernel
theorem dX3_hasMore_15 : decode cX3_hasMore 15 = .ok (.iconst 1, 1) := by decide +kernel
theorem dX3_hasMore_16 : decode cX3_hasMore 16 = .ok (.goto 4, 3) := by decide +kernel
theorem dX3_hasMore_19 : decode cX3_hasMore 19 = .ok (.iconst 0, 1) := by decide +kernel
theorem dX3_hasMore_20 : decode cX3_hasMore 20 = .ok (.ireturn, 1) := by decide +kernel
theorem dX3_readCommand_0 : decode cX3_readCommand 0 = .ok (.aload_n 0, 1) := by decide +kernel
theorem dX3_readCommand_1 : decode cX3_readCommand 1 = .ok (.invokevirtual 38, 3) := by decide +kernel
theorem dX3_readCommand_4 : decode cX3_readCommand 4 = .ok (.ifCond .ne 5, 3) := by decide +kernel
theorem dX3_readCommand_7 : decode cX3_readCommand 7 = .ok (.iconst 0, 1) := by decide +kernel
theorem dX3_readCommand_8 : decode cX3_readCommand 8 = .ok (.ireturn, 1) := by decide +kernel
theorem dX3_readCommand_9 : decode cX3_readCommand 9 = .ok (.aload_n 0, 1) := by decide +kernel
theorem dX3_readCommand_10 : decode cX3_readCommand 10 = .ok (.getfield 41, 3) := by decide +kernel
theorem dX3_readCommand_13 : decode cX3_readCommand 13 = .ok (.invokestatic 44, 3) := by decide +kernel
theorem dX3_readCommand_16 : decode cX3_readCommand 16 = .ok (.istore_n 1, 1) := by decide +kernel
theorem dX3_readCommand_17 : decode cX3_readCommand 17 = .ok (.iconst 0, 1) := by decide +kernel
theorem dX3_readCommand_18 : decode cX3_readCommand 18 = .ok (.istore_n 2, 1) := by decide +kernel
theorem dX3_readCommand_19 : decode cX3_readCommand 19 = .ok (.iload_n 2, 1) := by decide +kernel
theorem dX3_readCommand_20 : decode cX3_readCommand 20 = .ok (.iload_n 1, 1) := by decide +kernel
theorem dX3_readCommand_21 : decode cX3_readCommand 21 = .ok (.if_icmp .ge 36, 3) := by decide +kernel
theorem dX3_readCommand_24 : decode cX3_readCommand 24 = .ok (.aload_n 0, 1) := by decide +kernel
theorem dX3_readCommand_25 : decode cX3_readCommand 25 = .ok (.iload_n 2, 1) := by decide +kernel
theorem dX3_readCommand_26 : decode cX3_readCommand 26 = .ok (.aload_n 0, 1) := by decide +kernel
theorem dX3_readCommand_27 : decode cX3_readCommand 27 = .ok (.getfield 41, 3) := by decide +kernel
theorem dX3_readCommand_30 : decode cX3_readCommand 30 = .ok (.ifCond .ne 12, 3) := by decide +kernel
theorem dX3_readCommand_33 : decode cX3_readCommand 33 = .ok (.iload_n 2, 1) := by decide +kernel
theorem dX3_readCommand_34 : decode cX3_readCommand 34 = .ok (.iconst 1, 1) := by decide +kernel
theorem dX3_readCommand_35 : decode cX3_readCommand 35 = .ok (.if_icmp .ne 7, 3) := by decide +kernel
theorem dX3_readCommand_38 : decode cX3_readCommand 38 = .ok (.iconst 1, 1) := by decide +kernel
theorem dX3_readCommand_39 : decode cX3_readCommand 39 = .ok (.goto 4, 3) := by decide +kernel
theorem dX3_readCommand_42 : decode cX3_readCommand 42 = .ok (.iconst 0, 1) := by decide +kernel
theorem dX3_readCommand_43 : decode cX3_readCommand 43 = .ok (.invokevirtual 48, 3) := by decide +kernel
theorem dX3_readCommand_46 : decode cX3_readCommand 46 = .ok (.ifCond .ne 5, 3) := by decide +kernel
theorem dX3_readCommand_49 : decode cX3_readCommand 49 = .ok (.iconst 0, 1) := by decide +kernel
theorem dX3_readCommand_50 : decode cX3_readCommand 50 = .ok (.ireturn, 1) := by decide +kernel
theorem dX3_readCommand_51 : decode cX3_readCommand 51 = .ok (.iinc 2 1, 3) := by decide +kernel
theorem dX3_readCommand_54 : decode cX3_readCommand 54 = .ok (.goto (-35), 3) := by decide +kernel
theorem dX3_readCommand_57 : decode cX3_readCommand 57 = .ok (.aload_n 0, 1) := by decide +kernel
theorem dX3_readCommand_58 : decode cX3_readCommand 58 = .ok (.invokevirtual 35, 3) := by decide +kernel
theorem dX3_readCommand_61 : decode cX3_readCommand 61 = .ok (.aload_n 0, 1) := by decide +kernel
theorem dX3_readCommand_62 : decode cX3_readCommand 62 = .ok (.bipush 59, 2) := by decide +kernel
theorem dX3_readCommand_64 : decode cX3_readCommand 64 = .ok (.invokevirtual 52, 3) := by decide +kernel
theorem dX3_readCommand_67 : decode cX3_readCommand 67 = .ok (.ifCond .ne 5, 3) := by decide +kernel
theorem dX3_readCommand_70 : decode cX3_readCommand 70 = .ok (.iconst 0, 1) := by decide +kernel
theorem dX3_readCommand_71 : decode cX3_readCommand 71 = .ok (.ireturn, 1) := by decide +kernel
theorem dX3_readCommand_72 : decode cX3_readCommand 72 = .ok (.aload_n 0, 1) := by decide +kernel
theorem dX3_readCommand_73 : decode cX3_readCommand 73 = .ok (.dup, 1) := by decide +kernel
theorem dX3_readCommand_74 : decode cX3_readCommand 74 = .ok (.getfield 22, 3) := by decide +kernel
theorem dX3_readCommand_77 : decode cX3_readCommand 77 = .ok (.iconst 1, 1) := by decide +kernel
theorem dX3_readCommand_78 : decode cX3_readCommand 78 = .ok (.iadd, 1) := by decide +kernel
theorem dX3_readCommand_79 : decode cX3_readCommand 79 = .ok (.putfield 22, 3) := by decide +kernel
theorem dX3_readCommand_82 : decode cX3_readCommand 82 = .ok (.iconst 1, 1) := by decide +kernel
theorem dX3_readCommand_83 : decode cX3_readCommand 83 = .ok (.ireturn, 1) := by decide +kernel
theorem dX3_readWord_0 : decode cX3_readWord 0 = .ok (.aload_n 0, 1) := by decide +kernel
theorem dX3_readWord_1 : decode cX3_readWord 1 = .ok (.getfield 22, 3) := by decide +kernel
theorem dX3_readWord_4 : decode cX3_readWord 4 = .ok (.istore_n 1, 1) := by decide +kernel
theorem dX3_readWord_5 : decode cX3_readWord 5 = .ok (.iload_n 1, 1) := by decide +kernel
theorem dX3_readWord_6 : decode cX3_readWord 6 = .ok (.aload_n 0, 1) := by decide +kernel
theorem dX3_readWord_7 : decode cX3_readWord 7 = .ok (.getfield 18, 3) := by decide +kernel
theorem dX3_readWord_10 : decode cX3_readWord 10 = .ok (.if_icmp .ge 21, 3) := by decide +kernel
theorem dX3_readWord_13 : decode cX3_readWord 13 = .ok (.aload_n 0, 1) := by decide +kernel
theorem dX3_readWord_14 : decode cX3_readWord 14 = .ok (.getfield 9, 3) := by decide +kernel
theorem dX3_readWord_17 : decode cX3_readWord 17 = .ok (.iload_n 1, 1) := by decide +kernel
theorem dX3_readWord_18 : decode cX3_readWord 18 = .ok (.iaload, 1) := by decide +kernel
theorem dX3_readWord_19 : decode cX3_readWord 19 = .ok (.invokestatic 56, 3) := by decide +kernel
theorem dX3_readWord_22 : decode cX3_readWord 22 = .ok (.ifCond .eq 9, 3) := by decide +kernel
theorem dX3_readWord_25 : decode cX3_readWord 25 = .ok (.iinc 1 1, 3) := by decide +kernel
theorem dX3_readWord_28 : decode cX3_readWord 28 = .ok (.goto (-23), 3) := by decide +kernel
theorem dX3_readWord_31 : decode cX3_readWord 31 = .ok (.iconst 0, 1) := by decide +kernel
theorem dX3_readWord_32 : decode cX3_readWord 32 = .ok (.istore_n 2, 1) := by decide +kernel
theorem dX3_readWord_33 : decode cX3_readWord 33 = .ok (.iload_n 2, 1) := by decide +kernel
theorem dX3_readWord_34 : decode cX3_readWord 34 = .ok (.bipush 8, 2) := by decide +kernel
theorem dX3_readWord_36 : decode cX3_readWord 36 = .ok (.if_icmp .ge 33, 3) := by decide +kernel
theorem dX3_readWord_39 : decode cX3_readWord 39 = .ok (.aload_n 0, 1) := by decide +kernel
theorem dX3_readWord_40 : decode cX3_readWord 40 = .ok (.iload_n 2, 1) := by decide +kernel
theorem dX3_readWord_41 : decode cX3_readWord 41 = .ok (.invokestatic 59, 3) := by decide +kernel
theorem dX3_readWord_44 : decode cX3_readWord 44 = .ok (.iload_n 1, 1) := by decide +kernel
theorem dX3_readWord_45 : decode cX3_readWord 45 = .ok (.invokevirtual 63, 3) := by decide +kernel
theorem dX3_readWord_48 : decode cX3_readWord 48 = .ok (.ifCond .eq 15, 3) := by decide +kernel
theorem dX3_readWord_51 : decode cX3_readWord 51 = .ok (.aload_n 0, 1) := by decide +kernel
theorem dX3_readWord_52 : decode cX3_readWord 52 = .ok (.iload_n 2, 1) := by decide +kernel
theorem dX3_readWord_53 : decode cX3_readWord 53 = .ok (.putfield 41, 3) := by decide +kernel
theorem dX3_readWord_56 : decode cX3_readWord 56 = .ok (.aload_n 0, 1) := by decide +kernel
theorem dX3_readWord_57 : decode cX3_readWord 57 = .ok (.iload_n 1, 1) := by decide +kernel
theorem dX3_readWord_58 : decode cX3_readWord 58 = .ok (.putfield 22, 3) := by decide +kernel
theorem dX3_readWord_61 : decode cX3_readWord 61 = .ok (.iconst 1, 1) := by decide +kernel
theorem dX3_readWord_62 : decode cX3_readWord 62 = .ok (.ireturn, 1) := by decide +kernel
theorem dX3_readWord_63 : decode cX3_readWord 63 = .ok (.iinc 2 1, 3) := by decide +kernel
theorem dX3_readWord_66 : decode cX3_readWord 66 = .ok (.goto (-33), 3) := by decide +kernel
theorem dX3_readWord_69 : decode cX3_readWord 69 = .ok (.iconst 0, 1) := by decide +kernel
theorem dX3_readWord_70 : decode cX3_readWord 70 = .ok (.ireturn, 1) := by decide +kernel
theorem dX3_isWord_0 : decode cX3_isWord 0 = .ok (.iload_n 2, 1) := by decide +kernel
theorem dX3_isWord_1 : decode cX3_isWord 1 = .ok (.aload_n 0, 1) := by decide +kernel
theorem dX3_isWord_2 : decode cX3_isWord 2 = .ok (.getfield 22, 3) := by decide +kernel
theorem dX3_isWord_5 : decode cX3_isWord 5 = .ok (.isub, 1) := by decide +kernel
theorem dX3_isWord_6 : decode cX3_isWord 6 = .ok (.aload_n 1, 1) := by decide +kernel
theorem dX3_isWord_7 : decode cX3_isWord 7 = .ok (.invokevirtual 67, 3) := by decide +kernel
theorem dX3_isWord_10 : decode cX3_isWord 10 = .ok (.if_icmp .eq 5, 3) := by decide +kernel
theorem dX3_isWord_13 : decode cX3_isWord 13 = .ok (.iconst 0, 1) := by decide +kernel
theorem dX3_isWord_14 : decode cX3_isWord 14 = .ok (.ireturn, 1) := by decide +kernel
theorem dX3_isWord_15 : decode cX3_isWord 15 = .ok (.iconst 0, 1) := by decide +kernel
theorem dX3_isWord_16 : decode cX3_isWord 16 = .ok (.istore_n 3, 1) := by decide +kernel
theorem dX3_isWord_17 : decode cX3_isWord 17 = .ok (.iload_n 3, 1) := by decide +kernel
theorem dX3_isWord_18 : decode cX3_isWord 18 = .ok (.aload_n 1, 1) := by decide +kernel
theorem dX3_isWord_19 : decode cX3_isWord 19 = .ok (.invokevirtual 67, 3) := by decide +kernel
theorem dX3_isWord_22 : decode cX3_isWord 22 = .ok (.if_icmp .ge 30, 3) := by decide +kernel
theorem dX3_isWord_25 : decode cX3_isWord 25 = .ok (.aload_n 0, 1) := by decide +kernel
theorem dX3_isWord_26 : decode cX3_isWord 26 = .ok (.getfield 9, 3) := by decide +kernel
theorem dX3_isWord_29 : decode cX3_isWord 29 = .ok (.aload_n 0, 1) := by decide +kernel
theorem dX3_isWord_30 : decode cX3_isWord 30 = .ok (.getfield 22, 3) := by decide +kernel
theorem dX3_isWord_33 : decode cX3_isWord 33 = .ok (.iload_n 3, 1) := by decide +kernel
theorem dX3_isWord_34 : decode cX3_isWord 34 = .ok (.iadd, 1) := by decide +kernel
theorem dX3_isWord_35 : decode cX3_isWord 35 = .ok (.iaload, 1) := by decide +kernel
theorem dX3_isWord_36 : decode cX3_isWord 36 = .ok (.aload_n 1, 1) := by decide +kernel
theorem dX3_isWord_37 : decode cX3_isWord 37 = .ok (.iload_n 3, 1) := by decide +kernel
theorem dX3_isWord_38 : decode cX3_isWord 38 = .ok (.invokevirtual 72, 3) := by decide +kernel
theorem dX3_isWord_41 : decode cX3_isWord 41 = .ok (.if_icmp .eq 5, 3) := by decide +kernel
theorem dX3_isWord_44 : decode cX3_isWord 44 = .ok (.iconst 0, 1) := by decide +kernel
theorem dX3_isWord_45 : decode cX3_isWord 45 = .ok (.ireturn, 1) := by decide +kernel
theorem dX3_isWord_46 : decode cX3_isWord 46 = .ok (.iinc 3 1, 3) := by decide +kernel
theorem dX3_isWord_49 : decode cX3_isWord 49 = .ok (.goto (-32), 3) := by decide +kernel
theorem dX3_isWord_52 : decode cX3_isWord 52 = .ok (.iconst 1, 1) := by decide +kernel
theorem dX3_isWord_53 : decode cX3_isWord 53 = .ok (.ireturn, 1) := by decide +kernel
theorem dX3_readNumber_0 : decode cX3_readNumber 0 = .ok (.aload_n 0, 1) := by decide +kernel
theorem dX3_readNumber_1 : decode cX3_readNumber 1 = .ok (.invokevirtual 35, 3) := by decide +kernel
theorem dX3_readNumber_4 : decode cX3_readNumber 4 = .ok (.iload_n 2, 1) := by decide +kernel
theorem dX3_readNumber_5 : decode cX3_readNumber 5 = .ok (.ifCond .eq 16, 3) := by decide +kernel
theorem dX3_readNumber_8 : decode cX3_readNumber 8 = .ok (.aload_n 0, 1) := by decide +kernel
theorem dX3_readNumber_9 : decode cX3_readNumber 9 = .ok (.bipush 45, 2) := by decide +kernel
theorem dX3_readNumber_11 : decode cX3_readNumber 11 = .ok (.invokevirtual 52, 3) := by decide +kernel
theorem dX3_readNumber_14 : decode cX3_readNumber 14 = .ok (.ifCond .eq 7, 3) := by decide +kernel
theorem dX3_readNumber_17 : decode cX3_readNumber 17 = .ok (.iconst 1, 1) := by decide +kernel
theorem dX3_readNumber_18 : decode cX3_readNumber 18 = .ok (.goto 4, 3) := by decide +kernel
theorem dX3_readNumber_21 : decode cX3_readNumber 21 = .ok (.iconst 0, 1) := by decide +kernel
theorem dX3_readNumber_22 : decode cX3_readNumber 22 = .ok (.istore_n 3, 1) := by decide +kernel
theorem dX3_readNumber_23 : decode cX3_readNumber 23 = .ok (.iload_n 3, 1) := by decide +kernel
theorem dX3_readNumber_24 : decode cX3_readNumber 24 = .ok (.ifCond .eq 13, 3) := by decide +kernel
theorem dX3_readNumber_27 : decode cX3_readNumber 27 = .ok (.aload_n 0, 1) := by decide +kernel
theorem dX3_readNumber_28 : decode cX3_readNumber 28 = .ok (.dup, 1) := by decide +kernel
theorem dX3_readNumber_29 : decode cX3_readNumber 29 = .ok (.getfield 22, 3) := by decide +kernel
theorem dX3_readNumber_32 : decode cX3_readNumber 32 = .ok (.iconst 1, 1) := by decide +kernel
theorem dX3_readNumber_33 : decode cX3_readNumber 33 = .ok (.iadd, 1) := by decide +kernel
theorem dX3_readNumber_34 : decode cX3_readNumber 34 = .ok (.putfield 22, 3) := by decide +kernel
theorem dX3_readNumber_37 : decode cX3_readNumber 37 = .ok (.aload_n 0, 1) := by decide +kernel
theorem dX3_readNumber_38 : decode cX3_readNumber 38 = .ok (.invokevirtual 76, 3) := by decide +kernel
theorem dX3_readNumber_41 : decode cX3_readNumber 41 = .ok (.ifCond .ne 5, 3) := by decide +kernel
theorem dX3_readNumber_44 : decode cX3_readNumber 44 = .ok (.iconst 0, 1) := by decide +kernel
theorem dX3_readNumber_45 : decode cX3_readNumber 45 = .ok (.ireturn, 1) := by decide +kernel
theorem dX3_readNumber_46 : decode cX3_readNumber 46 = .ok (.iconst 0, 1) := by decide +kernel
theorem dX3_readNumber_47 : decode cX3_readNumber 47 = .ok (.istore 4, 2) := by decide +kernel
theorem dX3_readNumber_49 : decode cX3_readNumber 49 = .ok (.iconst 0, 1) := by decide +kernel
theorem dX3_readNumber_50 : decode cX3_readNumber 50 = .ok (.istore 5, 2) := by decide +kernel
theorem dX3_readNumber_52 : decode cX3_readNumber 52 = .ok (.iload 5, 2) := by decide +kernel
theorem dX3_readNumber_54 : decode cX3_readNumber 54 = .ok (.iconst 3, 1) := by decide +kernel
theorem dX3_readNumber_55 : decode cX3_readNumber 55 = .ok (.if_icmp .ge 46, 3) := by decide +kernel
theorem dX3_readNumber_58 : decode cX3_readNumber 58 = .ok (.aload_n 0, 1) := by decide +kernel
theorem dX3_readNumber_59 : decode cX3_readNumber 59 = .ok (.invokevirtual 76, 3) := by decide +kernel
theorem dX3_readNumber_62 : decode cX3_readNumber 62 = .ok (.ifCond .eq 39, 3) := by decide +kernel
theorem dX3_readNumber_65 : decode cX3_readNumber 65 = .ok (.iload 4, 2) := by decide +kernel
theorem dX3_readNumber_67 : decode cX3_readNumber 67 = .ok (.bipush 10, 2) := by decide +kernel
theorem dX3_readNumber_69 : decode cX3_readNumber 69 = .ok (.imul, 1) := by decide +kernel
theorem dX3_readNumber_70 : decode cX3_readNumber 70 = .ok (.aload_n 0, 1) := by decide +kernel
theorem dX3_readNumber_71 : decode cX3_readNumber 71 = .ok (.getfield 9, 3) := by decide +kernel
theorem dX3_readNumber_74 : decode cX3_readNumber 74 = .ok (.aload_n 0, 1) := by decide +kernel
theorem dX3_readNumber_75 : decode cX3_readNumber 75 = .ok (.getfield 22, 3) := by decide +kernel
theorem dX3_readNumber_78 : decode cX3_readNumber 78 = .ok (.iaload, 1) := by decide +kernel
theorem dX3_readNumber_79 : decode cX3_readNumber 79 = .ok (.iadd, 1) := by decide +kernel
theorem dX3_readNumber_80 : decode cX3_readNumber 80 = .ok (.bipush 48, 2) := by decide +kernel
theorem dX3_readNumber_82 : decode cX3_readNumber 82 = .ok (.isub, 1) := by decide +kernel
theorem dX3_readNumber_83 : decode cX3_readNumber 83 = .ok (.istore 4, 2) := by decide +kernel
theorem dX3_readNumber_85 : decode cX3_readNumber 85 = .ok (.aload_n 0, 1) := by decide +kernel
theorem dX3_readNumber_86 : decode cX3_readNumber 86 = .ok (.dup, 1) := by decide +kernel
theorem dX3_readNumber_87 : decode cX3_readNumber 87 = .ok (.getfield 22, 3) := by decide +kernel
theorem dX3_readNumber_90 : decode cX3_readNumber 90 = .ok (.iconst 1, 1) := by decide +kernel
theorem dX3_readNumber_91 : decode cX3_readNumber 91 = .ok (.iadd, 1) := by decide +kernel
theorem dX3_readNumber_92 : decode cX3_readNumber 92 = .ok (.putfield 22, 3) := by decide +kernel
theorem dX3_readNumber_95 : decode cX3_readNumber 95 = .ok (.iinc 5 1, 3) := by decide +kernel
theorem dX3_readNumber_98 : decode cX3_readNumber 98 = .ok (.goto (-46), 3) := by decide +kernel
theorem dX3_readNumber_101 : decode cX3_readNumber 101 = .ok (.aload_n 0, 1) := by decide +kernel
theorem dX3_readNumber_102 : decode cX3_readNumber 102 = .ok (.getfield 15, 3) := by decide +kernel
theorem dX3_readNumber_105 : decode cX3_readNumber 105 = .ok (.iload_n 1, 1) := by decide +kernel
theorem dX3_readNumber_106 : decode cX3_readNumber 106 = .ok (.iload_n 3, 1) := by decide +kernel
theorem dX3_readNumber_107 : decode cX3_readNumber 107 = .ok (.ifCond .eq 9, 3) := by decide +kernel
theorem dX3_readNumber_110 : decode cX3_readNumber 110 = .ok (.iload 4, 2) := by decide +kernel
theorem dX3_readNumber_112 : decode cX3_readNumber 112 = .ok (.ineg, 1) := by decide +kernel
theorem dX3_readNumber_113 : decode cX3_readNumber 113 = .ok (.goto 5, 3) := by decide +kernel
theorem dX3_readNumber_116 : decode cX3_readNumber 116 = .ok (.iload 4, 2) := by decide +kernel
theorem dX3_readNumber_118 : decode cX3_readNumber 118 = .ok (.iastore, 1) := by decide +kernel
theorem dX3_readNumber_119 : decode cX3_readNumber 119 = .ok (.aload_n 0, 1) := by decide +kernel
theorem dX3_readNumber_120 : decode cX3_readNumber 120 = .ok (.invokevirtual 76, 3) := by decide +kernel
theorem dX3_readNumber_123 : decode cX3_readNumber 123 = .ok (.ifCond .ne 7, 3) := by decide +kernel
theorem dX3_readNumber_126 : decode cX3_readNumber 126 = .ok (.iconst 1, 1) := by decide +kernel
theorem dX3_readNumber_127 : decode cX3_readNumber 127 = .ok (.goto 4, 3) := by decide +kernel
theorem dX3_readNumber_130 : decode cX3_readNumber 130 = .ok (.iconst 0, 1) := by decide +kernel
theorem dX3_readNumber_131 : decode cX3_readNumber 131 = .ok (.ireturn, 1) := by decide +kernel
theorem dX3_skipBlanks_0 : decode cX3_skipBlanks 0 = .ok (.aload_n 0, 1) := by decide +kernel
theorem dX3_skipBlanks_1 : decode cX3_skipBlanks 1 = .ok (.getfield 22, 3) := by decide +kernel
theorem dX3_skipBlanks_4 : decode cX3_skipBlanks 4 = .ok (.aload_n 0, 1) := by decide +kernel
theorem dX3_skipBlanks_5 : decode cX3_skipBlanks 5 = .ok (.getfield 18, 3) := by decide +kernel
theorem dX3_skipBlanks_8 : decode cX3_skipBlanks 8 = .ok (.if_icmp .ge 30, 3) := by decide +kernel
theorem dX3_skipBlanks_11 : decode cX3_skipBlanks 11 = .ok (.aload_n 0, 1) := by decide +kernel
theorem dX3_skipBlanks_12 : decode cX3_skipBlanks 12 = .ok (.getfield 9, 3) := by decide +kernel
theorem dX3_skipBlanks_15 : decode cX3_skipBlanks 15 = .ok (.aload_n 0, 1) := by decide +kernel
theorem dX3_skipBlanks_16 : decode cX3_skipBlanks 16 = .ok (.getfield 22, 3) := by decide +kernel
theorem dX3_skipBlanks_19 : decode cX3_skipBlanks 19 = .ok (.iaload, 1) := by decide +kernel
theorem dX3_skipBlanks_20 : decode cX3_skipBlanks 20 = .ok (.bipush 32, 2) := by decide +kernel
theorem dX3_skipBlanks_22 : decode cX3_skipBlanks 22 = .ok (.if_icmp .ne 16, 3) := by decide +kernel
theorem dX3_skipBlanks_25 : decode cX3_skipBlanks 25 = .ok (.aload_n 0, 1) := by decide +kernel
theorem dX3_skipBlanks_26 : decode cX3_skipBlanks 26 = .ok (.dup, 1) := by decide +kernel
theorem dX3_skipBlanks_27 : decode cX3_skipBlanks 27 = .ok (.getfield 22, 3) := by decide +kernel
theorem dX3_skipBlanks_30 : decode cX3_skipBlanks 30 = .ok (.iconst 1, 1) := by decide +kernel
theorem dX3_skipBlanks_31 : decode cX3_skipBlanks 31 = .ok (.iadd, 1) := by decide +kernel
theorem dX3_skipBlanks_32 : decode cX3_skipBlanks 32 = .ok (.putfield 22, 3) := by decide +kernel
theorem dX3_skipBlanks_35 : decode cX3_skipBlanks 35 = .ok (.goto (-35), 3) := by decide +kernel
theorem dX3_skipBlanks_38 : decode cX3_skipBlanks 38 = .ok (.return_, 1) := by decide +kernel
theorem dX3_sees_0 : decode cX3_sees 0 = .ok (.aload_n 0, 1) := by decide +kernel
theorem dX3_sees_1 : decode cX3_sees 1 = .ok (.getfield 22, 3) := by decide +kernel
theorem dX3_sees_4 : decode cX3_sees 4 = .ok (.aload_n 0, 1) := by decide +kernel
theorem dX3_sees_5 : decode cX3_sees 5 = .ok (.getfield 18, 3) := by decide +kernel
theorem dX3_sees_8 : decode cX3_sees 8 = .ok (.if_icmp .ge 20, 3) := by decide +kernel
theorem dX3_sees_11 : decode cX3_sees 11 = .ok (.aload_n 0, 1) := by decide +kernel
theorem dX3_sees_12 : decode cX3_sees 12 = .ok (.getfield 9, 3) := by decide +kernel
theorem dX3_sees_15 : decode cX3_sees 15 = .ok (.aload_n 0, 1) := by decide +kernel
theorem dX3_sees_16 : decode cX3_sees 16 = .ok (.getfield 22, 3) := by decide +kernel
theorem dX3_sees_19 : decode cX3_sees 19 = .ok (.iaload, 1) := by decide +kernel
theorem dX3_sees_20 : decode cX3_sees 20 = .ok (.iload_n 1, 1) := by decide +kernel
theorem dX3_sees_21 : decode cX3_sees 21 = .ok (.if_icmp .ne 7, 3) := by decide +kernel
theorem dX3_sees_24 : decode cX3_sees 24 = .ok (.iconst 1, 1) := by decide +kernel
theorem dX3_sees_25 : decode cX3_sees 25 = .ok (.goto 4, 3) := by decide +kernel
theorem dX3_sees_28 : decode cX3_sees 28 = .ok (.iconst 0, 1) := by decide +kernel
theorem dX3_sees_29 : decode cX3_sees 29 = .ok (.ireturn, 1) := by decide +kernel
theorem dX3_seesDigit_0 : decode cX3_seesDigit 0 = .ok (.aload_n 0, 1) := by decide +kernel
theorem dX3_seesDigit_1 : decode cX3_seesDigit 1 = .ok (.getfield 22, 3) := by decide +kernel
theorem dX3_seesDigit_4 : decode cX3_seesDigit 4 = .ok (.aload_n 0, 1) := by decide +kernel
theorem dX3_seesDigit_5 : decode cX3_seesDigit 5 = .ok (.getfield 18, 3) := by decide +kernel
theorem dX3_seesDigit_8 : decode cX3_seesDigit 8 = .ok (.if_icmp .ge 26, 3) := by decide +kernel
theorem dX3_seesDigit_11 : decode cX3_seesDigit 11 = .ok (.aload_n 0, 1) := by decide +kernel
theorem dX3_seesDigit_12 : decode cX3_seesDigit 12 = .ok (.getfield 9, 3) := by decide +kernel
theorem dX3_seesDigit_15 : decode cX3_seesDigit 15 = .ok (.aload_n 0, 1) := by decide +kernel
theorem dX3_seesDigit_16 : decode cX3_seesDigit 16 = .ok (.getfield 22, 3) := by decide +kernel
theorem dX3_seesDigit_19 : decode cX3_seesDigit 19 = .ok (.iaload, 1) := by decide +kernel
theorem dX3_seesDigit_20 : decode cX3_seesDigit 20 = .ok (.bipush 48, 2) := by decide +kernel
theorem dX3_seesDigit_22 : decode cX3_seesDigit 22 = .ok (.bipush 57, 2) := by decide +kernel
theorem dX3_seesDigit_24 : decode cX3_seesDigit 24 = .ok (.invokestatic 79, 3) := by decide +kernel
theorem dX3_seesDigit_27 : decode cX3_seesDigit 27 = .ok (.ifCond .eq 7, 3) := by decide +kernel
theorem dX3_seesDigit_30 : decode cX3_seesDigit 30 = .ok (.iconst 1, 1) := by decide +kernel
theorem dX3_seesDigit_31 : decode cX3_seesDigit 31 = .ok (.goto 4, 3) := by decide +kernel
theorem dX3_seesDigit_34 : decode cX3_seesDigit 34 = .ok (.iconst 0, 1) := by decide +kernel
theorem dX3_seesDigit_35 : decode cX3_seesDigit 35 = .ok (.ireturn, 1) := by decide +kernel
theorem dX3_isLetter_0 : decode cX3_isLetter 0 = .ok (.iload_n 0, 1) := by decide +kernel
theorem dX3_isLetter_1 : decode cX3_isLetter 1 = .ok (.bipush 97, 2) := by decide +kernel
theorem dX3_isLetter_3 : decode cX3_isLetter 3 = .ok (.bipush 122, 2) := by decide +kernel
theorem dX3_isLetter_5 : decode cX3_isLetter 5 = .ok (.invokestatic 79, 3) := by decide +kernel
theorem dX3_isLetter_8 : decode cX3_isLetter 8 = .ok (.ireturn, 1) := by decide +kernel
theorem dX3_wordOf_0 : decode cX3_wordOf 0 = .ok (.iload_n 0, 1) := by decide +kernel
theorem dX3_wordOf_1 : decode cX3_wordOf 1 = .ok (.tableswitch 64 0 6 #[43, 46, 49, 52, 55, 58, 61], 43) := by decide +kernel
theorem dX3_wordOf_44 : decode cX3_wordOf 44 = .ok (.ldc 83, 2) := by decide +kernel
theorem dX3_wordOf_46 : decode cX3_wordOf 46 = .ok (.areturn, 1) := by decide +kernel
theorem dX3_wordOf_47 : decode cX3_wordOf 47 = .ok (.ldc 85, 2) := by decide +kernel
theorem dX3_wordOf_49 : decode cX3_wordOf 49 = .ok (.areturn, 1) := by decide +kernel
theorem dX3_wordOf_50 : decode cX3_wordOf 50 = .ok (.ldc 87, 2) := by decide +kernel
theorem dX3_wordOf_52 : decode cX3_wordOf 52 = .ok (.areturn, 1) := by decide +kernel
theorem dX3_wordOf_53 : decode cX3_wordOf 53 = .ok (.ldc 89, 2) := by decide +kernel
theorem dX3_wordOf_55 : decode cX3_wordOf 55 = .ok (.areturn, 1) := by decide +kernel
theorem dX3_wordOf_56 : decode cX3_wordOf 56 = .ok (.ldc 91, 2) := by decide +kernel
theorem dX3_wordOf_58 : decode cX3_wordOf 58 = .ok (.areturn, 1) := by decide +kernel
theorem dX3_wordOf_59 : decode cX3_wordOf 59 = .ok (.ldc 93, 2) := by decide +kernel
theorem dX3_wordOf_61 : decode cX3_wordOf 61 = .ok (.areturn, 1) := by decide +kernel
theorem dX3_wordOf_62 : decode cX3_wordOf 62 = .ok (.ldc 95, 2) := by decide +kernel
theorem dX3_wordOf_64 : decode cX3_wordOf 64 = .ok (.areturn, 1) := by decide +kernel
theorem dX3_wordOf_65 : decode cX3_wordOf 65 = .ok (.ldc 97, 2) := by decide +kernel
theorem dX3_wordOf_67 : decode cX3_wordOf 67 = .ok (.areturn, 1) := by decide +kernel
theorem dX3_numbersOf_0 : decode cX3_numbersOf 0 = .ok (.iload_n 0, 1) := by decide +kernel
theorem dX3_numbersOf_1 : decode cX3_numbersOf 1 = .ok (.tableswitch 43 0 5 #[41, 39, 43, 43, 41, 41], 39) := by decide +kernel
theorem dX3_numbersOf_40 : decode cX3_numbersOf 40 = .ok (.iconst 4, 1) := by decide +kernel
theorem dX3_numbersOf_41 : decode cX3_numbersOf 41 = .ok (.ireturn, 1) := by decide +kernel
theorem dX3_numbersOf_42 : decode cX3_numbersOf 42 = .ok (.iconst 2, 1) := by decide +kernel
theorem dX3_numbersOf_43 : decode cX3_numbersOf 43 = .ok (.ireturn, 1) := by decide +kernel
theorem dX3_numbersOf_44 : decode cX3_numbersOf 44 = .ok (.iconst 1, 1) := by decide +kernel
theorem dX3_numbersOf_45 : decode cX3_numbersOf 45 = .ok (.ireturn, 1) := by decide +kernel
theorem dX4_init_0 : decode cX4_init 0 = .ok (.aload_n 0, 1) := by decide +kernel
theorem dX4_init_1 : decode cX4_init 1 = .ok (.invokespecial 3, 3) := by decide +kernel
theorem dX4_init_4 : decode cX4_init 4 = .ok (.aload_n 0, 1) := by decide +kernel
theorem dX4_init_5 : decode cX4_init 5 = .ok (.bipush 10, 2) := by decide +kernel
theorem dX4_init_7 : decode cX4_init 7 = .ok (.newarray .boolean, 2) := by decide +kernel
theorem dX4_init_9 : decode cX4_init 9 = .ok (.putfield 9, 3) := by decide +kernel
theorem dX4_init_12 : decode cX4_init 12 = .ok (.aload_n 0, 1) := by decide +kernel
theorem dX4_init_13 : decode cX4_init 13 = .ok (.bipush 6, 2) := by decide +kernel
theorem dX4_init_15 : decode cX4_init 15 = .ok (.newarray .int, 2) := by decide +kernel
theorem dX4_init_17 : decode cX4_init 17 = .ok (.putfield 15, 3) := by decide +kernel
theorem dX4_init_20 : decode cX4_init 20 = .ok (.aload_n 0, 1) := by decide +kernel
theorem dX4_init_21 : decode cX4_init 21 = .ok (.bipush 6, 2) := by decide +kernel
theorem dX4_init_23 : decode cX4_init 23 = .ok (.bipush 8, 2) := by decide +kernel
theorem dX4_init_25 : decode cX4_init 25 = .ok (.multianewarray 19 2, 4) := by decide +kernel
theorem dX4_init_29 : decode cX4_init 29 = .ok (.putfield 21, 3) := by decide +kernel
theorem dX4_init_32 : decode cX4_init 32 = .ok (.aload_n 0, 1) := by decide +kernel
theorem dX4_init_33 : decode cX4_init 33 = .ok (.bipush 6, 2) := by decide +kernel
theorem dX4_init_35 : decode cX4_init 35 = .ok (.newarray .long, 2) := by decide +kernel
theorem dX4_init_37 : decode cX4_init 37 = .ok (.putfield 24, 3) := by decide +kernel
theorem dX4_init_40 : decode cX4_init 40 = .ok (.aload_n 0, 1) := by decide +kernel
theorem dX4_init_41 : decode cX4_init 41 = .ok (.bipush 10, 2) := by decide +kernel
theorem dX4_init_43 : decode cX4_init 43 = .ok (.newarray .long, 2) := by decide +kernel
theorem dX4_init_45 : decode cX4_init 45 = .ok (.putfield 28, 3) := by decide +kernel
theorem dX4_init_48 : decode cX4_init 48 = .ok (.aload_n 0, 1) := by decide +kernel
theorem dX4_init_49 : decode cX4_init 49 = .ok (.bipush 10, 2) := by decide +kernel
theorem dX4_init_51 : decode cX4_init 51 = .ok (.newarray .long, 2) := by decide +kernel
theorem dX4_init_53 : decode cX4_init 53 = .ok (.putfield 31, 3) := by decide +kernel
theorem dX4_init_56 : decode cX4_init 56 = .ok (.aload_n 0, 1) := by decide +kernel
theorem dX4_init_57 : decode cX4_init 57 = .ok (.lconst 1, 1) := by decide +kernel
theorem dX4_init_58 : decode cX4_init 58 = .ok (.putfield 34, 3) := by decide +kernel
theorem dX4_init_61 : decode cX4_init 61 = .ok (.aload_n 0, 1) := by decide +kernel
theorem dX4_init_62 : decode cX4_init 62 = .ok (.iconst (-1), 1) := by decide +kernel
theorem dX4_init_63 : decode cX4_init 63 = .ok (.putfield 38, 3) := by decide +kernel
theorem dX4_init_66 : decode cX4_init 66 = .ok (.aload_n 0, 1) := by decide +kernel
theorem dX4_init_67 : decode cX4_init 67 = .ok (.lconst 1, 1) := by decide +kernel
theorem dX4_init_68 : decode cX4_init 68 = .ok (.putfield 42, 3) := by decide +kernel
theorem dX4_init_71 : decode cX4_init 71 = .ok (.aload_n 0, 1) := by decide +kernel
theorem dX4_init_72 : decode cX4_init 72 = .ok (.aload_n 1, 1) := by decide +kernel
theorem dX4_init_73 : decode cX4_init 73 = .ok (.putfield 45, 3) := by decide +kernel
theorem dX4_init_76 : decode cX4_init 76 = .ok (.return_, 1) := by decide +kernel
theorem dX4_take_0 : decode cX4_take 0 = .ok (.iconst 0, 1) := by decide +kernel
theorem dX4_take_1 : decode cX4_take 1 = .ok (.istore_n 3, 1) := by decide +kernel
theorem dX4_take_2 : decode cX4_take 2 = .ok (.iload_n 3, 1) := by decide +kernel
theorem dX4_take_3 : decode cX4_take 3 = .ok (.bipush 10, 2) := by decide +kernel
theorem dX4_take_5 : decode cX4_take 5 = .ok (.if_icmp .ge 53, 3) := by decide +kernel
theorem dX4_take_8 : decode cX4_take 8 = .ok (.aload_n 0, 1) := by decide +kernel
theorem dX4_take_9 : decode cX4_take 9 = .ok (.getfield 9, 3) := by decide +kernel
theorem dX4_take_12 : decode cX4_take 12 = .ok (.iload_n 3, 1) := by decide +kernel
theorem dX4_take_13 : decode cX4_take 13 = .ok (.iload_n 3, 1) := by decide +kernel
theorem dX4_take_14 : decode cX4_take 14 = .ok (.aload_n 0, 1) := by decide +kernel
theorem dX4_take_15 : decode cX4_take 15 = .ok (.getfield 45, 3) := by decide +kernel
theorem dX4_take_18 : decode cX4_take 18 = .ok (.getfield 49, 3) := by decide +kernel
theorem dX4_take_21 : decode cX4_take 21 = .ok (.if_icmp .ge 29, 3) := by decide +kernel
theorem dX4_take_24 : decode cX4_take 24 = .ok (.aload_n 0, 1) := by decide +kernel
theorem dX4_take_25 : decode cX4_take 25 = .ok (.getfield 45, 3) := by decide +kernel
theorem dX4_take_28 : decode cX4_take 28 = .ok (.getfield 54, 3) := by decide +kernel
theorem dX4_take_31 : decode cX4_take 31 = .ok (.iload_n 3, 1) := by decide +kernel
theorem dX4_take_32 : decode cX4_take 32 = .ok (.baload, 1) := by decide +kernel
theorem dX4_take_33 : decode cX4_take 33 = .ok (.ifCond .eq 17, 3) := by decide +kernel
theorem dX4_take_36 : decode cX4_take 36 = .ok (.iload_n 3, 1) := by decide +kernel
theorem dX4_take_37 : decode cX4_take 37 = .ok (.iload_n 1, 1) := by decide +kernel
theorem dX4_take_38 : decode cX4_take 38 = .ok (.if_icmp .eq 12, 3) := by decide +kernel
theorem dX4_take_41 : decode cX4_take 41 = .ok (.iload_n 3, 1) := by decide +kernel
theorem dX4_take_42 : decode cX4_take 42 = .ok (.iload_n 2, 1) := by decide +kernel
theorem dX4_take_43 : decode cX4_take 43 = .ok (.if_icmp .eq 7, 3) := by decide +kernel
theorem dX4_take_46 : decode cX4_take 46 = .ok (.iconst 1, 1) := by decide +kernel
theorem dX4_take_47 : decode cX4_take 47 = .ok (.goto 4, 3) := by decide +kernel
theorem dX4_take_50 : decode cX4_take 50 = .ok (.iconst 0, 1) := by decide +kernel
theorem dX4_take_51 : decode cX4_take 51 = .ok (.bastore, 1) := by decide +kernel
theorem dX4_take_52 : decode cX4_take 52 = .ok (.iinc 3 1, 3) := by decide +kernel
theorem dX4_take_55 : decode cX4_take 55 = .ok (.goto (-53), 3) := by decide +kernel
theorem dX4_take_58 : decode cX4_take 58 = .ok (.aload_n 0, 1) := by decide +kernel
theorem dX4_take_59 : decode cX4_take 59 = .ok (.invokevirtual 57, 3) := by decide +kernel
theorem dX4_take_62 : decode cX4_take 62 = .ok (.return_, 1) := by decide +kernel
theorem dX4_narrow_0 : decode cX4_narrow 0 = .ok (.aload_n 0, 1) := by decide +kernel
theorem dX4_narrow_1 : decode cX4_narrow 1 = .ok (.getfield 15, 3) := by decide +kernel
theorem dX4_narrow_4 : decode cX4_narrow 4 = .ok (.iload_n 1, 1) := by decide +kernel
theorem dX4_narrow_5 : decode cX4_narrow 5 = .ok (.iaload, 1) := by decide +kernel
theorem dX4_narrow_6 : decode cX4_narrow 6 = .ok (.istore_n 2, 1) := by decide +kernel
theorem dX4_narrow_7 : decode cX4_narrow 7 = .ok (.iconst 0, 1) := by decide +kernel
theorem dX4_narrow_8 : decode cX4_narrow 8 = .ok (.istore_n 3, 1) := by decide +kernel
theorem dX4_narrow_9 : decode cX4_narrow 9 = .ok (.iload_n 3, 1) := by decide +kernel
theorem dX4_narrow_10 : decode cX4_narrow 10 = .ok (.aload_n 0, 1) := by decide +kernel
theorem dX4_narrow_11 : decode cX4_narrow 11 = .ok (.getfield 45, 3) := by decide +kernel
theorem dX4_narrow_14 : decode cX4_narrow 14 = .ok (.getfield 49, 3) := by decide +kernel
theorem dX4_narrow_17 : decode cX4_narrow 17 = .ok (.if_icmp .ge 47, 3) := by decide +kernel
theorem dX4_narrow_20 : decode cX4_narrow 20 = .ok (.aload_n 0, 1) := by decide +kernel
theorem dX4_narrow_21 : decode cX4_narrow 21 = .ok (.getfield 9, 3) := by decide +kernel
theorem dX4_narrow_24 : decode cX4_narrow 24 = .ok (.iload_n 3, 1) := by decide +kernel
theorem dX4_narrow_25 : decode cX4_narrow 25 = .ok (.aload_n 0, 1) := by decide +kernel
theorem dX4_narrow_26 : decode cX4_narrow 26 = .ok (.getfield 9, 3) := by decide +kernel
theorem dX4_narrow_29 : decode cX4_narrow 29 = .ok (.iload_n 3, 1) := by decide +kernel
theorem dX4_narrow_30 : decode cX4_narrow 30 = .ok (.baload, 1) := by decide +kernel
theorem dX4_narrow_31 : decode cX4_narrow 31 = .ok (.ifCond .eq 25, 3) := by decide +kernel
theorem dX4_narrow_34 : decode cX4_narrow 34 = .ok (.aload_n 0, 1) := by decide +kernel
theorem dX4_narrow_35 : decode cX4_narrow 35 = .ok (.getfield 15, 3) := by decide +kernel
theorem dX4_narrow_38 : decode cX4_narrow 38 = .ok (.aload_n 0, 1) := by decide +kernel
theorem dX4_narrow_39 : decode cX4_narrow 39 = .ok (.getfield 45, 3) := by decide +kernel
theorem dX4_narrow_42 : decode cX4_narrow 42 = .ok (.getfield 60, 3) := by decide +kernel
theorem dX4_narrow_45 : decode cX4_narrow 45 = .ok (.iload_n 3, 1) := by decide +kernel
theorem dX4_narrow_46 : decode cX4_narrow 46 = .ok (.iaload, 1) := by decide +kernel
theorem dX4_narrow_47 : decode cX4_narrow 47 = .ok (.iaload, 1) := by decide +kernel
theorem dX4_narrow_48 : decode cX4_narrow 48 = .ok (.iload_n 2, 1) := by decide +kernel
theorem dX4_narrow_49 : decode cX4_narrow 49 = .ok (.if_icmp .ne 7, 3) := by decide +kernel
theorem dX4_narrow_52 : decode cX4_narrow 52 = .ok (.iconst 1, 1) := by decide +kernel
theorem dX4_narrow_53 : decode cX4_narrow 53 = .ok (.goto 4, 3) := by decide +kernel
theorem dX4_narrow_56 : decode cX4_narrow 56 = .ok (.iconst 0, 1) := by decide +kernel
theorem dX4_narrow_57 : decode cX4_narrow 57 = .ok (.bastore, 1) := by decide +kernel
theorem dX4_narrow_58 : decode cX4_narrow 58 = .ok (.iinc 3 1, 3) := by decide +kernel
theorem dX4_narrow_61 : decode cX4_narrow 61 = .ok (.goto (-52), 3) := by decide +kernel
theorem dX4_narrow_64 : decode cX4_narrow 64 = .ok (.aload_n 0, 1) := by decide +kernel
theorem dX4_narrow_65 : decode cX4_narrow 65 = .ok (.invokevirtual 57, 3) := by decide +kernel
theorem dX4_narrow_68 : decode cX4_narrow 68 = .ok (.return_, 1) := by decide +kernel
theorem dX4_findIslands_0 : decode cX4_findIslands 0 = .ok (.iconst 0, 1) := by decide +kernel
theorem dX4_findIslands_1 : decode cX4_findIslands 1 = .ok (.istore_n 1, 1) := by decide +kernel
theorem dX4_findIslands_2 : decode cX4_findIslands 2 = .ok (.iload_n 1, 1) := by decide +kernel
theorem dX4_findIslands_3 : decode cX4_findIslands 3 = .ok (.bipush 6, 2) := by decide +kernel
theorem dX4_findIslands_5 : decode cX4_findIslands 5 = .ok (.if_icmp .ge 16, 3) := by decide +kernel
theorem dX4_findIslands_8 : decode cX4_findIslands 8 = .ok (.aload_n 0, 1) := by decide +kernel
theorem dX4_findIslands_9 : decode cX4_findIslands 9 = .ok (.getfield 15, 3) := by decide +kernel
theorem dX4_findIslands_12 : decode cX4_findIslands 12 = .ok (.iload_n 1, 1) := by decide +kernel
theorem dX4_findIslands_13 : decode cX4_findIslands 13 = .ok (.iload_n 1, 1) := by decide +kernel
theorem dX4_findIslands_14 : decode cX4_findIslands 14 = .ok (.iastore, 1) := by decide +kernel
theorem dX4_findIslands_15 : decode cX4_findIslands 15 = .ok (.iinc 1 1, 3) := by decide +kernel
theorem dX4_findIslands_18 : decode cX4_findIslands 18 = .ok (.goto (-16), 3) := by decide +kernel
theorem dX4_findIslands_21 : decode cX4_findIslands 21 = .ok (.iconst 0, 1) := by decide +kernel
theorem dX4_findIslands_22 : decode cX4_findIslands 22 = .ok (.istore_n 1, 1) := by decide +kernel
theorem dX4_findIslands_23 : decode cX4_findIslands 23 = .ok (.iload_n 1, 1) := by decide +kernel
theorem dX4_findIslands_24 : decode cX4_findIslands 24 = .ok (.aload_n 0, 1) := by decide +kernel
theorem dX4_findIslands_25 : decode cX4_findIslands 25 = .ok (.getfield 45, 3) := by decide +kernel
theorem dX4_findIslands_28 : decode cX4_findIslands 28 = .ok (.getfield 49, 3) := by decide +kernel
theorem dX4_findIslands_31 : decode cX4_findIslands 31 = .ok (.if_icmp .ge 50, 3) := by decide +kernel
theorem dX4_findIslands_34 : decode cX4_findIslands 34 = .ok (.aload_n 0, 1) := by decide +kernel
theorem dX4_findIslands_35 : decode cX4_findIslands 35 = .ok (.getfield 9, 3) := by decide +kernel
theorem dX4_findIslands_38 : decode cX4_findIslands 38 = .ok (.iload_n 1, 1) := by decide +kernel
theorem dX4_findIslands_39 : decode cX4_findIslands 39 = .ok (.baload, 1) := by decide +kernel
theorem dX4_findIslands_40 : decode cX4_findIslands 40 = .ok (.ifCond .eq 35, 3) := by decide +kernel
theorem dX4_findIslands_43 : decode cX4_findIslands 43 = .ok (.aload_n 0, 1) := by decide +kernel
theorem dX4_findIslands_44 : decode cX4_findIslands 44 = .ok (.aload_n 0, 1) := by decide +kernel
theorem dX4_findIslands_45 : decode cX4_findIslands 45 = .ok (.getfield 15, 3) := by decide +kernel
theorem dX4_findIslands_48 : decode cX4_findIslands 48 = .ok (.aload_n 0, 1) := by decide +kernel
theorem dX4_findIslands_49 : decode cX4_findIslands 49 = .ok (.getfield 45, 3) := by decide +kernel
theorem dX4_findIslands_52 : decode cX4_findIslands 52 = .ok (.getfield 60, 3) := by decide +kernel
theorem dX4_findIslands_55 : decode cX4_findIslands 55 = .ok (.iload_n 1, 1) := by decide +kernel
theorem dX4_findIslands_56 : decode cX4_findIslands 56 = .ok (.iaload, 1) := by decide +kernel
theorem dX4_findIslands_57 : decode cX4_findIslands 57 = .ok (.iaload, 1) := by decide +kernel
theorem dX4_findIslands_58 : decode cX4_findIslands 58 = .ok (.aload_n 0, 1) := by decide +kernel
theorem dX4_findIslands_59 : decode cX4_findIslands 59 = .ok (.getfield 15, 3) := by decide +kernel
theorem dX4_findIslands_62 : decode cX4_findIslands 62 = .ok (.aload_n 0, 1) := by decide +kernel
theorem dX4_findIslands_63 : decode cX4_findIslands 63 = .ok (.getfield 45, 3) := by decide +kernel
theorem dX4_findIslands_66 : decode cX4_findIslands 66 = .ok (.getfield 63, 3) := by decide +kernel
theorem dX4_findIslands_69 : decode cX4_findIslands 69 = .ok (.iload_n 1, 1) := by decide +kernel
theorem dX4_findIslands_70 : decode cX4_findIslands 70 = .ok (.iaload, 1) := by decide +kernel
theorem dX4_findIslands_71 : decode cX4_findIslands 71 = .ok (.iaload, 1) := by decide +kernel
theorem dX4_findIslands_72 : decode cX4_findIslands 72 = .ok (.invokevirtual 66, 3) := by decide +kernel
theorem dX4_findIslands_75 : decode cX4_findIslands 75 = .ok (.iinc 1 1, 3) := by decide +kernel
theorem dX4_findIslands_78 : decode cX4_findIslands 78 = .ok (.goto (-55), 3) := by decide +kernel
theorem dX4_findIslands_81 : decode cX4_findIslands 81 = .ok (.return_, 1) := by decide +kernel
theorem dX4_merge_0 : decode cX4_merge 0 = .ok (.iload_n 1, 1) := by decide +kernel
theorem dX4_merge_1 : decode cX4_merge 1 = .ok (.iload_n 2, 1) := by decide +kernel
theorem dX4_merge_2 : decode cX4_merge 2 = .ok (.if_icmp .ge 7, 3) := by decide +kernel
theorem dX4_merge_5 : decode cX4_merge 5 = .ok (.iload_n 1, 1) := by decide +kernel
theorem dX4_merge_6 : decode cX4_merge 6 = .ok (.goto 4, 3) := by decide +kernel
theorem dX4_merge_9 : decode cX4_merge 9 = .ok (.iload_n 2, 1) := by decide +kernel
theorem dX4_merge_10 : decode cX4_merge 10 = .ok (.istore_n 3, 1) := by decide +kernel
theorem dX4_merge_11 : decode cX4_merge 11 = .ok (.iload_n 1, 1) := by decide +kernel
theorem dX4_merge_12 : decode cX4_merge 12 = .ok (.iload_n 2, 1) := by decide +kernel
theorem dX4_merge_13 : decode cX4_merge 13 = .ok (.if_icmp .ge 7, 3) := by decide +kernel
theorem dX4_merge_16 : decode cX4_merge 16 = .ok (.iload_n 2, 1) := by decide +kernel
theorem dX4_merge_17 : decode cX4_merge 17 = .ok (.goto 4, 3) := by decide +kernel
theorem dX4_merge_20 : decode cX4_merge 20 = .ok (.iload_n 1, 1) := by decide +kernel
theorem dX4_merge_21 : decode cX4_merge 21 = .ok (.istore 4, 2) := by decide +kernel
theorem dX4_merge_23 : decode cX4_merge 23 = .ok (.iconst 0, 1) := by decide +kernel
theorem dX4_merge_24 : decode cX4_merge 24 = .ok (.istore 5, 2) := by decide +kernel
theorem dX4_merge_26 : decode cX4_merge 26 = .ok (.iload 5, 2) := by decide +kernel
theorem dX4_merge_28 : decode cX4_merge 28 = .ok (.aload_n 0, 1) := by decide +kernel
theorem dX4_merge_29 : decode cX4_merge 29 = .ok (.getfield 45, 3) := by decide +kernel
theorem dX4_merge_32 : decode cX4_merge 32 = .ok (.getfield 70, 3) := by decide +kernel
theorem dX4_merge_35 : decode cX4_merge 35 = .ok (.if_icmp .ge 29, 3) := by decide +kernel
theorem dX4_merge_38 : decode cX4_merge 38 = .ok (.aload_n 0, 1) := by decide +kernel
theorem dX4_merge_39 : decode cX4_merge 39 = .ok (.getfield 15, 3) := by decide +kernel
theorem dX4_merge_42 : decode cX4_merge 42 = .ok (.iload 5, 2) := by decide +kernel
theorem dX4_merge_44 : decode cX4_merge 44 = .ok (.iaload, 1) := by decide +kernel
theorem dX4_merge_45 : decode cX4_merge 45 = .ok (.iload 4, 2) := by decide +kernel
theorem dX4_merge_47 : decode cX4_merge 47 = .ok (.if_icmp .ne 11, 3) := by decide +kernel
theorem dX4_merge_50 : decode cX4_merge 50 = .ok (.aload_n 0, 1) := by decide +kernel
theorem dX4_merge_51 : decode cX4_merge 51 = .ok (.getfield 15, 3) := by decide +kernel
theorem dX4_merge_54 : decode cX4_merge 54 = .ok (.iload 5, 2) := by decide +kernel
theorem dX4_merge_56 : decode cX4_merge 56 = .ok (.iload_n 3, 1) := by decide +kernel
theorem dX4_merge_57 : decode cX4_merge 57 = .ok (.iastore, 1) := by decide +kernel
theorem dX4_merge_58 : decode cX4_merge 58 = .ok (.iinc 5 1, 3) := by decide +kernel
theorem dX4_merge_61 : decode cX4_merge 61 = .ok (.goto (-35), 3) := by decide +kernel
theorem dX4_merge_64 : decode cX4_merge 64 = .ok (.return_, 1) := by decide +kernel
theorem dX4_joins_0 : decode cX4_joins 0 = .ok (.aload_n 0, 1) := by decide +kernel
theorem dX4_joins_1 : decode cX4_joins 1 = .ok (.getfield 15, 3) := by decide +kernel
theorem dX4_joins_4 : decode cX4_joins 4 = .ok (.iload_n 1, 1) := by decide +kernel
theorem dX4_joins_5 : decode cX4_joins 5 = .ok (.iaload, 1) := by decide +kernel
theorem dX4_joins_6 : decode cX4_joins 6 = .ok (.aload_n 0, 1) := by decide +kernel
theorem dX4_joins_7 : decode cX4_joins 7 = .ok (.getfield 15, 3) := by decide +kernel
theorem dX4_joins_10 : decode cX4_joins 10 = .ok (.iload_n 2, 1) := by decide +kernel
theorem dX4_joins_11 : decode cX4_joins 11 = .ok (.iaload, 1) := by decide +kernel
theorem dX4_joins_12 : decode cX4_joins 12 = .ok (.if_icmp .ne 7, 3) := by decide +kernel
theorem dX4_joins_15 : decode cX4_joins 15 = .ok (.iconst 1, 1) := by decide +kernel
theorem dX4_joins_16 : decode cX4_joins 16 = .ok (.goto 4, 3) := by decide +kernel
theorem dX4_joins_19 : decode cX4_joins 19 = .ok (.iconst 0, 1) := by decide +kernel
theorem dX4_joins_20 : decode cX4_joins 20 = .ok (.ireturn, 1) := by decide +kernel
theorem dX4_islands_0 : decode cX4_islands 0 = .ok (.iconst 0, 1) := by decide +kernel
theorem dX4_islands_1 : decode cX4_islands 1 = .ok (.istore_n 1, 1) := by decide +kernel
theorem dX4_islands_2 : decode cX4_islands 2 = .ok (.iconst 0, 1) := by decide +kernel
theorem dX4_islands_3 : decode cX4_islands 3 = .ok (.istore_n 2, 1) := by decide +kernel
theorem dX4_islands_4 : decode cX4_islands 4 = .ok (.iload_n 2, 1) := by decide +kernel
theorem dX4_islands_5 : decode cX4_islands 5 = .ok (.aload_n 0, 1) := by decide +kernel
theorem dX4_islands_6 : decode cX4_islands 6 = .ok (.getfield 45, 3) := by decide +kernel
theorem dX4_islands_9 : decode cX4_islands 9 = .ok (.getfield 70, 3) := by decide +kernel
theorem dX4_islands_12 : decode cX4_islands 12 = .ok (.if_icmp .ge 22, 3) := by decide +kernel
theorem dX4_islands_15 : decode cX4_islands 15 = .ok (.aload_n 0, 1) := by decide +kernel
theorem dX4_islands_16 : decode cX4_islands 16 = .ok (.getfield 15, 3) := by decide +kernel
theorem dX4_islands_19 : decode cX4_islands 19 = .ok (.iload_n 2, 1) := by decide +kernel
theorem dX4_islands_20 : decode cX4_islands 20 = .ok (.iaload, 1) := by decide +kernel
theorem dX4_islands_21 : decode cX4_islands 21 = .ok (.iload_n 2, 1) := by decide +kernel
theorem dX4_islands_22 : decode cX4_islands 22 = .ok (.if_icmp .ne 6, 3) := by decide +kernel
theorem dX4_islands_25 : decode cX4_islands 25 = .ok (.iinc 1 1, 3) := by decide +kernel
theorem dX4_islands_28 : decode cX4_islands 28 = .ok (.iinc 2 1, 3) := by decide +kernel
theorem dX4_islands_31 : decode cX4_islands 31 = .ok (.goto (-27), 3) := by decide +kernel
theorem dX4_islands_34 : decode cX4_islands 34 = .ok (.iload_n 1, 1) := by decide +kernel
theorem dX4_islands_35 : decode cX4_islands 35 = .ok (.ireturn, 1) := by decide +kernel
theorem dX4_ownSum_0 : decode cX4_ownSum 0 = .ok (.iconst 0, 1) := by decide +kernel
theorem dX4_ownSum_1 : decode cX4_ownSum 1 = .ok (.istore_n 2, 1) := by decide +kernel
theorem dX4_ownSum_2 : decode cX4_ownSum 2 = .ok (.iconst 0, 1) := by decide +kernel
theorem dX4_ownSum_3 : decode cX4_ownSum 3 = .ok (.istore_n 3, 1) := by decide +kernel
theorem dX4_ownSum_4 : decode cX4_ownSum 4 = .ok (.iload_n 3, 1) := by decide +kernel
theorem dX4_ownSum_5 : decode cX4_ownSum 5 = .ok (.aload_n 0, 1) := by decide +kernel
theorem dX4_ownSum_6 : decode cX4_ownSum 6 = .ok (.getfield 45, 3) := by decide +kernel
theorem dX4_ownSum_9 : decode cX4_ownSum 9 = .ok (.getfield 70, 3) := by decide +kernel
theorem dX4_ownSum_12 : decode cX4_ownSum 12 = .ok (.if_icmp .ge 31, 3) := by decide +kernel
theorem dX4_ownSum_15 : decode cX4_ownSum 15 = .ok (.aload_n 0, 1) := by decide +kernel
theorem dX4_ownSum_16 : decode cX4_ownSum 16 = .ok (.getfield 15, 3) := by decide +kernel
theorem dX4_ownSum_19 : decode cX4_ownSum 19 = .ok (.iload_n 3, 1) := by decide +kernel
theorem dX4_ownSum_20 : decode cX4_ownSum 20 = .ok (.iaload, 1) := by decide +kernel
theorem dX4_ownSum_21 : decode cX4_ownSum 21 = .ok (.iload_n 1, 1) := by decide +kernel
theorem dX4_ownSum_22 : decode cX4_ownSum 22 = .ok (.if_icmp .ne 15, 3) := by decide +kernel
theorem dX4_ownSum_25 : decode cX4_ownSum 25 = .ok (.iload_n 2, 1) := by decide +kernel
theorem dX4_ownSum_26 : decode cX4_ownSum 26 = .ok (.aload_n 0, 1) := by decide +kernel
theorem dX4_ownSum_27 : decode cX4_ownSum 27 = .ok (.getfield 45, 3) := by decide +kernel
theorem dX4_ownSum_30 : decode cX4_ownSum 30 = .ok (.getfield 73, 3) := by decide +kernel
theorem dX4_ownSum_33 : decode cX4_ownSum 33 = .ok (.iload_n 3, 1) := by decide +kernel
theorem dX4_ownSum_34 : decode cX4_ownSum 34 = .ok (.iaload, 1) := by decide +kernel
theorem dX4_ownSum_35 : decode cX4_ownSum 35 = .ok (.iadd, 1) := by decide +kernel
theorem dX4_ownSum_36 : decode cX4_ownSum 36 = .ok (.istore_n 2, 1) := by decide +kernel
theorem dX4_ownSum_37 : decode cX4_ownSum 37 = .ok (.iinc 3 1, 3) := by decide +kernel
theorem dX4_ownSum_40 : decode cX4_ownSum 40 = .ok (.goto (-36), 3) := by decide +kernel
theorem dX4_ownSum_43 : decode cX4_ownSum 43 = .ok (.iload_n 2, 1) := by decide +kernel
theorem dX4_ownSum_44 : decode cX4_ownSum 44 = .ok (.ireturn, 1) := by decide +kernel
theorem dX4_solve_0 : decode cX4_solve 0 = .ok (.iconst 0, 1) := by decide +kernel
theorem dX4_solve_1 : decode cX4_solve 1 = .ok (.istore_n 3, 1) := by decide +kernel
theorem dX4_solve_2 : decode cX4_solve 2 = .ok (.iload_n 3, 1) := by decide +kernel
theorem dX4_solve_3 : decode cX4_solve 3 = .ok (.aload_n 0, 1) := by decide +kernel
theorem dX4_solve_4 : decode cX4_solve 4 = .ok (.getfield 45, 3) := by decide +kernel
theorem dX4_solve_7 : decode cX4_solve 7 = .ok (.getfield 70, 3) := by decide +kernel
theorem dX4_solve_10 : decode cX4_solve 10 = .ok (.if_icmp .ge 16, 3) := by decide +kernel
theorem dX4_solve_13 : decode cX4_solve 13 = .ok (.aload_n 0, 1) := by decide +kernel
theorem dX4_solve_14 : decode cX4_solve 14 = .ok (.iload_n 3, 1) := by decide +kernel
theorem dX4_solve_15 : decode cX4_solve 15 = .ok (.iload_n 1, 1) := by decide +kernel
theorem dX4_solve_16 : decode cX4_solve 16 = .ok (.iload_n 2, 1) := by decide +kernel
theorem dX4_solve_17 : decode cX4_solve 17 = .ok (.invokevirtual 76, 3) := by decide +kernel
theorem dX4_solve_20 : decode cX4_solve 20 = .ok (.iinc 3 1, 3) := by decide +kernel
theorem dX4_solve_23 : decode cX4_solve 23 = .ok (.goto (-21), 3) := by decide +kernel
theorem dX4_solve_26 : decode cX4_solve 26 = .ok (.iconst 0, 1) := by decide +kernel
theorem dX4_solve_27 : decode cX4_solve 27 = .ok (.istore_n 3, 1) := by decide +kernel
theorem dX4_solve_28 : decode cX4_solve 28 = .ok (.iload_n 3, 1) := by decide +kernel
theorem dX4_solve_29 : decode cX4_solve 29 = .ok (.aload_n 0, 1) := by decide +kernel
theorem dX4_solve_30 : decode cX4_solve 30 = .ok (.getfield 45, 3) := by decide +kernel
theorem dX4_solve_33 : decode cX4_solve 33 = .ok (.getfield 49, 3) := by decide +kernel
theorem dX4_solve_36 : decode cX4_solve 36 = .ok (.if_icmp .ge 80, 3) := by decide +kernel
theorem dX4_solve_39 : decode cX4_solve 39 = .ok (.aload_n 0, 1) := by decide +kernel
theorem dX4_solve_40 : decode cX4_solve 40 = .ok (.getfield 9, 3) := by decide +kernel
theorem dX4_solve_43 : decode cX4_solve 43 = .ok (.iload_n 3, 1) := by decide +kernel
theorem dX4_solve_44 : decode cX4_solve 44 = .ok (.baload, 1) := by decide +kernel
theorem dX4_solve_45 : decode cX4_solve 45 = .ok (.ifCond .eq 65, 3) := by decide +kernel
theorem dX4_solve_48 : decode cX4_solve 48 = .ok (.aload_n 0, 1) := by decide +kernel
theorem dX4_solve_49 : decode cX4_solve 49 = .ok (.aload_n 0, 1) := by decide +kernel
theorem dX4_solve_50 : decode cX4_solve 50 = .ok (.getfield 45, 3) := by decide +kernel
theorem dX4_solve_53 : decode cX4_solve 53 = .ok (.getfield 60, 3) := by decide +kernel
theorem dX4_solve_56 : decode cX4_solve 56 = .ok (.iload_n 3, 1) := by decide +kernel
theorem dX4_solve_57 : decode cX4_solve 57 = .ok (.iaload, 1) := by decide +kernel
theorem dX4_solve_58 : decode cX4_solve 58 = .ok (.aload_n 0, 1) := by decide +kernel
theorem dX4_solve_59 : decode cX4_solve 59 = .ok (.getfield 45, 3) := by decide +kernel
theorem dX4_solve_62 : decode cX4_solve 62 = .ok (.getfield 63, 3) := by decide +kernel
theorem dX4_solve_65 : decode cX4_solve 65 = .ok (.iload_n 3, 1) := by decide +kernel
theorem dX4_solve_66 : decode cX4_solve 66 = .ok (.iaload, 1) := by decide +kernel
theorem dX4_solve_67 : decode cX4_solve 67 = .ok (.aload_n 0, 1) := by decide +kernel
theorem dX4_solve_68 : decode cX4_solve 68 = .ok (.getfield 45, 3) := by decide +kernel
theorem dX4_solve_71 : decode cX4_solve 71 = .ok (.getfield 80, 3) := by decide +kernel
theorem dX4_solve_74 : decode cX4_solve 74 = .ok (.iload_n 3, 1) := by decide +kernel
theorem dX4_solve_75 : decode cX4_solve 75 = .ok (.iaload, 1) := by decide +kernel
theorem dX4_solve_76 : decode cX4_solve 76 = .ok (.invokevirtual 83, 3) := by decide +kernel
theorem dX4_solve_79 : decode cX4_solve 79 = .ok (.aload_n 0, 1) := by decide +kernel
theorem dX4_solve_80 : decode cX4_solve 80 = .ok (.aload_n 0, 1) := by decide +kernel
theorem dX4_solve_81 : decode cX4_solve 81 = .ok (.getfield 45, 3) := by decide +kernel
theorem dX4_solve_84 : decode cX4_solve 84 = .ok (.getfield 63, 3) := by decide +kernel
theorem dX4_solve_87 : decode cX4_solve 87 = .ok (.iload_n 3, 1) := by decide +kernel
theorem dX4_solve_88 : decode cX4_solve 88 = .ok (.iaload, 1) := by decide +kernel
theorem dX4_solve_89 : decode cX4_solve 89 = .ok (.aload_n 0, 1) := by decide +kernel
theorem dX4_solve_90 : decode cX4_solve 90 = .ok (.getfield 45, 3) := by decide +kernel
theorem dX4_solve_93 : decode cX4_solve 93 = .ok (.getfield 60, 3) := by decide +kernel
theorem dX4_solve_96 : decode cX4_solve 96 = .ok (.iload_n 3, 1) := by decide +kernel
theorem dX4_solve_97 : decode cX4_solve 97 = .ok (.iaload, 1) := by decide +kernel
theorem dX4_solve_98 : decode cX4_solve 98 = .ok (.aload_n 0, 1) := by decide +kernel
theorem dX4_solve_99 : decode cX4_solve 99 = .ok (.getfield 45, 3) := by decide +kernel
theorem dX4_solve_102 : decode cX4_solve 102 = .ok (.getfield 80, 3) := by decide +kernel
theorem dX4_solve_105 : decode cX4_solve 105 = .ok (.iload_n 3, 1) := by decide +kernel
theorem dX4_solve_106 : decode cX4_solve 106 = .ok (.iaload, 1) := by decide +kernel
theorem dX4_solve_107 : decode cX4_solve 107 = .ok (.invokevirtual 83, 3) := by decide +kernel
theorem dX4_solve_110 : decode cX4_solve 110 = .ok (.iinc 3 1, 3) := by decide +kernel
theorem dX4_solve_113 : decode cX4_solve 113 = .ok (.goto (-85), 3) := by decide +kernel
theorem dX4_solve_116 : decode cX4_solve 116 = .ok (.aload_n 0, 1) := by decide +kernel
theorem dX4_solve_117 : decode cX4_solve 117 = .ok (.invokevirtual 86, 3) := by decide +kernel
theorem dX4_solve_120 : decode cX4_solve 120 = .ok (.aload_n 0, 1) := by decide +kernel
theorem dX4_solve_121 : decode cX4_solve 121 = .ok (.invokevirtual 89, 3) := by decide +kernel
theorem dX4_solve_124 : decode cX4_solve 124 = .ok (.return_, 1) := by decide +kernel
theorem dX4_startRow_0 : decode cX4_startRow 0 = .ok (.aload_n 0, 1) := by decide +kernel
theorem dX4_startRow_1 : decode cX4_startRow 1 = .ok (.getfield 45, 3) := by decide +kernel
theorem dX4_startRow_4 : decode cX4_startRow 4 = .ok (.getfield 70, 3) := by decide +kernel
theorem dX4_startRow_7 : decode cX4_startRow 7 = .ok (.istore 4, 2) := by decide +kernel
theorem dX4_startRow_9 : decode cX4_startRow 9 = .ok (.aload_n 0, 1) := by decide +kernel
theorem dX4_startRow_10 : decode cX4_startRow 10 = .ok (.getfield 15, 3) := by decide +kernel
theorem dX4_startRow_13 : decode cX4_startRow 13 = .ok (.iload_n 1, 1) := by decide +kernel
theorem dX4_startRow_14 : decode cX4_startRow 14 = .ok (.iaload, 1) := by decide +kernel
theorem dX4_startRow_15 : decode cX4_startRow 15 = .ok (.iload_n 1, 1) := by decide +kernel
theorem dX4_startRow_16 : decode cX4_startRow 16 = .ok (.if_icmp .ne 7, 3) := by decide +kernel
theorem dX4_startRow_19 : decode cX4_startRow 19 = .ok (.iconst 1, 1) := by decide +kernel
theorem dX4_startRow_20 : decode cX4_startRow 20 = .ok (.goto 4, 3) := by decide +kernel
theorem dX4_startRow_23 : decode cX4_startRow 23 = .ok (.iconst 0, 1) := by decide +kernel
theorem dX4_startRow_24 : decode cX4_startRow 24 = .ok (.istore 5, 2) := by decide +kernel
theorem dX4_startRow_26 : decode cX4_startRow 26 = .ok (.iconst 0, 1) := by decide +kernel
theorem dX4_startRow_27 : decode cX4_startRow 27 = .ok (.istore 6, 2) := by decide +kernel
theorem dX4_startRow_29 : decode cX4_startRow 29 = .ok (.iload 6, 2) := by decide +kernel
theorem dX4_startRow_31 : decode cX4_startRow 31 = .ok (.iload 4, 2) := by decide +kernel
theorem dX4_startRow_33 : decode cX4_startRow 33 = .ok (.if_icmp .ge 34, 3) := by decide +kernel
theorem dX4_startRow_36 : decode cX4_startRow 36 = .ok (.aload_n 0, 1) := by decide +kernel
theorem dX4_startRow_37 : decode cX4_startRow 37 = .ok (.getfield 21, 3) := by decide +kernel
theorem dX4_startRow_40 : decode cX4_startRow 40 = .ok (.iload_n 1, 1) := by decide +kernel
theorem dX4_startRow_41 : decode cX4_startRow 41 = .ok (.aaload, 1) := by decide +kernel
theorem dX4_startRow_42 : decode cX4_startRow 42 = .ok (.iload 6, 2) := by decide +kernel
theorem dX4_startRow_44 : decode cX4_startRow 44 = .ok (.iload 5, 2) := by decide +kernel
theorem dX4_startRow_46 : decode cX4_startRow 46 = .ok (.ifCond .eq 13, 3) := by decide +kernel
theorem dX4_startRow_49 : decode cX4_startRow 49 = .ok (.iload 6, 2) := by decide +kernel
theorem dX4_startRow_51 : decode cX4_startRow 51 = .ok (.iload_n 1, 1) := by decide +kernel
theorem dX4_startRow_52 : decode cX4_startRow 52 = .ok (.if_icmp .ne 7, 3) := by decide +kernel
theorem dX4_startRow_55 : decode cX4_startRow 55 = .ok (.lconst 1, 1) := by decide +kernel
theorem dX4_startRow_56 : decode cX4_startRow 56 = .ok (.goto 4, 3) := by decide +kernel
theorem dX4_startRow_59 : decode cX4_startRow 59 = .ok (.lconst 0, 1) := by decide +kernel
theorem dX4_startRow_60 : decode cX4_startRow 60 = .ok (.lastore, 1) := by decide +kernel
theorem dX4_startRow_61 : decode cX4_startRow 61 = .ok (.iinc 6 1, 3) := by decide +kernel
theorem dX4_startRow_64 : decode cX4_startRow 64 = .ok (.goto (-35), 3) := by decide +kernel
theorem dX4_startRow_67 : decode cX4_startRow 67 = .ok (.aload_n 0, 1) := by decide +kernel
theorem dX4_startRow_68 : decode cX4_startRow 68 = .ok (.getfield 21, 3) := by decide +kernel
theorem dX4_startRow_71 : decode cX4_startRow 71 = .ok (.iload_n 1, 1) := by decide +kernel
theorem dX4_startRow_72 : decode cX4_startRow 72 = .ok (.aaload, 1) := by decide +kernel
theorem dX4_startRow_73 : decode cX4_startRow 73 = .ok (.iload 4, 2) := by decide +kernel
theorem dX4_startRow_75 : decode cX4_startRow 75 = .ok (.iload 5, 2) := by decide +kernel
theorem dX4_startRow_77 : decode cX4_startRow 77 = .ok (.ifCond .eq 7, 3) := by decide +kernel
theorem dX4_startRow_80 : decode cX4_startRow 80 = .ok (.lconst 0, 1) := by decide +kernel
theorem dX4_startRow_81 : decode cX4_startRow 81 = .ok (.goto 13, 3) := by decide +kernel
theorem dX4_startRow_84 : decode cX4_startRow 84 = .ok (.aload_n 0, 1) := by decide +kernel
theorem dX4_startRow_85 : decode cX4_startRow 85 = .ok (.getfield 45, 3) := by decide +kernel
theorem dX4_startRow_88 : decode cX4_startRow 88 = .ok (.getfield 73, 3) := by decide +kernel
theorem dX4_startRow_91 : decode cX4_startRow 91 = .ok (.iload_n 1, 1) := by decide +kernel
theorem dX4_startRow_92 : decode cX4_startRow 92 = .ok (.iaload, 1) := by decide +kernel
theorem dX4_startRow_93 : decode cX4_startRow 93 = .ok (.i2l, 1) := by decide +kernel
theorem dX4_startRow_94 : decode cX4_startRow 94 = .ok (.lastore, 1) := by decide +kernel
theorem dX4_startRow_95 : decode cX4_startRow 95 = .ok (.aload_n 0, 1) := by decide +kernel
theorem dX4_startRow_96 : decode cX4_startRow 96 = .ok (.getfield 21, 3) := by decide +kernel
theorem dX4_startRow_99 : decode cX4_startRow 99 = .ok (.iload_n 1, 1) := by decide +kernel
theorem dX4_startRow_100 : decode cX4_startRow 100 = .ok (.aaload, 1) := by decide +kernel
theorem dX4_startRow_101 : decode cX4_startRow 101 = .ok (.iload 4, 2) := by decide +kernel
theorem dX4_startRow_103 : decode cX4_startRow 103 = .ok (.iconst 1, 1) := by decide +kernel
theorem dX4_startRow_104 : decode cX4_startRow 104 = .ok (.iadd, 1) := by decide +kernel
theorem dX4_startRow_105 : decode cX4_startRow 105 = .ok (.iload 5, 2) := by decide +kernel
theorem dX4_startRow_107 : decode cX4_startRow 107 = .ok (.ifCond .eq 7, 3) := by decide +kernel
theorem dX4_startRow_110 : decode cX4_startRow 110 = .ok (.lconst 0, 1) := by decide +kernel
theorem dX4_startRow_111 : decode cX4_startRow 111 = .ok (.goto 25, 3) := by decide +kernel
theorem dX4_startRow_114 : decode cX4_startRow 114 = .ok (.iload_n 1, 1) := by decide +kernel
theorem dX4_startRow_115 : decode cX4_startRow 115 = .ok (.iload_n 2, 1) := by decide +kernel
theorem dX4_startRow_116 : decode cX4_startRow 116 = .ok (.if_icmp .ne 7, 3) := by decide +kernel
theorem dX4_startRow_119 : decode cX4_startRow 119 = .ok (.iconst 1, 1) := by decide +kernel
theorem dX4_startRow_120 : decode cX4_startRow 120 = .ok (.goto 4, 3) := by decide +kernel
theorem dX4_startRow_123 : decode cX4_startRow 123 = .ok (.iconst 0, 1) := by decide +kernel
theorem dX4_startRow_124 : decode cX4_startRow 124 = .ok (.iload_n 1, 1) := by decide +kernel
theorem dX4_startRow_125 : decode cX4_startRow 125 = .ok (.iload_n 3, 1) := by decide +kernel
theorem dX4_startRow_126 : decode cX4_startRow 126 = .ok (.if_icmp .ne 7, 3) := by decide +kernel
theorem dX4_startRow_129 : decode cX4_startRow 129 = .ok (.iconst 1, 1) := by decide +kernel
theorem dX4_startRow_130 : decode cX4_startRow 130 = .ok (.goto 4, 3) := by decide +kernel
theorem dX4_startRow_133 : decode cX4_startRow 133 = .ok (.iconst 0, 1) := by decide +kernel
theorem dX4_startRow_134 : decode cX4_startRow 134 = .ok (.isub, 1) := by decide +kernel
theorem dX4_startRow_135 : decode cX4_startRow 135 = .ok (.i2l, 1) := by decide +kernel
theorem dX4_startRow_136 : decode cX4_startRow 136 = .ok (.lastore, 1) := by decide +kernel
theorem dX4_startRow_137 : decode cX4_startRow 137 = .ok (.return_, 1) := by decide +kernel
theorem dX4_addTerms_0 : decode cX4_addTerms 0 = .ok (.aload_n 0, 1) := by decide +kernel
theorem dX4_addTerms_1 : decode cX4_addTerms 1 = .ok (.getfield 15, 3) := by decide +kernel
theorem dX4_addTerms_4 : decode cX4_addTerms 4 = .ok (.iload_n 1, 1) := by decide +kernel
theorem dX4_addTerms_5 : decode cX4_addTerms 5 = .ok (.iaload, 1) := by decide +kernel
theorem dX4_addTerms_6 : decode cX4_addTerms 6 = .ok (.iload_n 1, 1) := by decide +kernel
theorem dX4_addTerms_7 : decode cX4_addTerms 7 = .ok (.if_icmp .ne 4, 3) := by decide +kernel
theorem dX4_addTerms_10 : decode cX4_addTerms 10 = .ok (.return_, 1) := by decide +kernel
theorem dX4_addTerms_11 : decode cX4_addTerms 11 = .ok (.aload_n 0, 1) := by decide +kernel
theorem dX4_addTerms_12 : decode cX4_addTerms 12 = .ok (.getfield 21, 3) := by decide +kernel
theorem dX4_addTerms_15 : decode cX4_addTerms 15 = .ok (.iload_n 1, 1) := by decide +kernel
theorem dX4_addTerms_16 : decode cX4_addTerms 16 = .ok (.aaload, 1) := by decide +kernel
theorem dX4_addTerms_17 : decode cX4_addTerms 17 = .ok (.iload_n 1, 1) := by decide +kernel
theorem dX4_addTerms_18 : decode cX4_addTerms 18 = .ok (.dup2, 1) := by decide +kernel
theorem dX4_addTerms_19 : decode cX4_addTerms 19 = .ok (.laload, 1) := by decide +kernel
theorem dX4_addTerms_20 : decode cX4_addTerms 20 = .ok (.iload_n 3, 1) := by decide +kernel
theorem dX4_addTerms_21 : decode cX4_addTerms 21 = .ok (.i2l, 1) := by decide +kernel
theorem dX4_addTerms_22 : decode cX4_addTerms 22 = .ok (.ladd, 1) := by decide +kernel
theorem dX4_addTerms_23 : decode cX4_addTerms 23 = .ok (.lastore, 1) := by decide +kernel
theorem dX4_addTerms_24 : decode cX4_addTerms 24 = .ok (.aload_n 0, 1) := by decide +kernel
theorem dX4_addTerms_25 : decode cX4_addTerms 25 = .ok (.getfield 15, 3) := by decide +kernel
theorem dX4_addTerms_28 : decode cX4_addTerms 28 = .ok (.iload_n 2, 1) := by decide +kernel
theorem dX4_addTerms_29 : decode cX4_addTerms 29 = .ok (.iaload, 1) := by decide +kernel
theorem dX4_addTerms_30 : decode cX4_addTerms 30 = .ok (.iload_n 2, 1) := by decide +kernel
theorem dX4_addTerms_31 : decode cX4_addTerms 31 = .ok (.if_icmp .eq 16, 3) := by decide +kernel
theorem dX4_addTerms_34 : decode cX4_addTerms 34 = .ok (.aload_n 0, 1) := by decide +kernel
theorem dX4_addTerms_35 : decode cX4_addTerms 35 = .ok (.getfield 21, 3) := by decide +kernel
theorem dX4_addTerms_38 : decode cX4_addTerms 38 = .ok (.iload_n 1, 1) := by decide +kernel
theorem dX4_addTerms_39 : decode cX4_addTerms 39 = .ok (.aaload, 1) := by decide +kernel
theorem dX4_addTerms_40 : decode cX4_addTerms 40 = .ok (.iload_n 2, 1) := by decide +kernel
theorem dX4_addTerms_41 : decode cX4_addTerms 41 = .ok (.dup2, 1) := by decide +kernel
theorem dX4_addTerms_42 : decode cX4_addTerms 42 = .ok (.laload, 1) := by decide +kernel
theorem dX4_addTerms_43 : decode cX4_addTerms 43 = .ok (.iload_n 3, 1) := by decide +kernel
theorem dX4_addTerms_44 : decode cX4_addTerms 44 = .ok (.i2l, 1) := by decide +kernel
theorem dX4_addTerms_45 : decode cX4_addTerms 45 = .ok (.lsub, 1) := by decide +kernel
theorem dX4_addTerms_46 : decode cX4_addTerms 46 = .ok (.lastore, 1) := by decide +kernel
theorem dX4_addTerms_47 : decode cX4_addTerms 47 = .ok (.return_, 1) := by decide +kernel
theorem dX4_eliminate_0 : decode cX4_eliminate 0 = .ok (.aload_n 0, 1) := by decide +kernel
theorem dX4_eliminate_1 : decode cX4_eliminate 1 = .ok (.lconst 1, 1) := by decide +kernel
theorem dX4_eliminate_2 : decode cX4_eliminate 2 = .ok (.putfield 34, 3) := by decide +kernel
theorem dX4_eliminate_5 : decode cX4_eliminate 5 = .ok (.aload_n 0, 1) := by decide +kernel
theorem dX4_eliminate_6 : decode cX4_eliminate 6 = .ok (.getfield 45, 3) := by decide +kernel
theorem dX4_eliminate_9 : decode cX4_eliminate 9 = .ok (.getfield 70, 3) := by decide +kernel
theorem dX4_eliminate_12 : decode cX4_eliminate 12 = .ok (.istore_n 1, 1) := by decide +kernel
theorem dX4_eliminate_13 : decode cX4_eliminate 13 = .ok (.iconst 0, 1) := by decide +kernel
theorem dX4_eliminate_14 : decode cX4_eliminate 14 = .ok (.istore_n 2, 1) := by decide +kernel
theorem dX4_eliminate_15 : decode cX4_eliminate 15 = .ok (.iload_n 2, 1) := by decide +kernel
theorem dX4_eliminate_16 : decode cX4_eliminate 16 = .ok (.iload_n 1, 1) := by decide +kernel
theorem dX4_eliminate_17 : decode cX4_eliminate 17 = .ok (.if_icmp .ge 123, 3) := by decide +kernel
theorem dX4_eliminate_20 : decode cX4_eliminate 20 = .ok (.aload_n 0, 1) := by decide +kernel
theorem dX4_eliminate_21 : decode cX4_eliminate 21 = .ok (.getfield 34, 3) := by decide +kernel
theorem dX4_eliminate_24 : decode cX4_eliminate 24 = .ok (.lconst 0, 1) := by decide +kernel
theorem dX4_eliminate_25 : decode cX4_eliminate 25 = .ok (.lcmp, 1) := by decide +kernel
theorem dX4_eliminate_26 : decode cX4_eliminate 26 = .ok (.ifCond .eq 114, 3) := by decide +kernel
theorem dX4_eliminate_29 : decode cX4_eliminate 29 = .ok (.aload_n 0, 1) := by decide +kernel
theorem dX4_eliminate_30 : decode cX4_eliminate 30 = .ok (.getfield 21, 3) := by decide +kernel
theorem dX4_eliminate_33 : decode cX4_eliminate 33 = .ok (.iload_n 2, 1) := by decide +kernel
theorem dX4_eliminate_34 : decode cX4_eliminate 34 = .ok (.aaload, 1) := by decide +kernel
theorem dX4_eliminate_35 : decode cX4_eliminate 35 = .ok (.iload_n 2, 1) := by decide +kernel
theorem dX4_eliminate_36 : decode cX4_eliminate 36 = .ok (.laload, 1) := by decide +kernel
theorem dX4_eliminate_37 : decode cX4_eliminate 37 = .ok (.lstore_n 3, 1) := by decide +kernel
theorem dX4_eliminate_38 : decode cX4_eliminate 38 = .ok (.iconst 0, 1) := by decide +kernel
theorem dX4_eliminate_39 : decode cX4_eliminate 39 = .ok (.istore 5, 2) := by decide +kernel
theorem dX4_eliminate_41 : decode cX4_eliminate 41 = .ok (.iload 5, 2) := by decide +kernel
theorem dX4_eliminate_43 : decode cX4_eliminate 43 = .ok (.iload_n 1, 1) := by decide +kernel
theorem dX4_eliminate_44 : decode cX4_eliminate 44 = .ok (.if_icmp .ge 85, 3) := by decide +kernel
theorem dX4_eliminate_47 : decode cX4_eliminate 47 = .ok (.aload_n 0, 1) := by decide +kernel
theorem dX4_eliminate_48 : decode cX4_eliminate 48 = .ok (.getfield 21, 3) := by decide +kernel
theorem dX4_eliminate_51 : decode cX4_eliminate 51 = .ok (.iload 5, 2) := by decide +kernel
theorem dX4_eliminate_53 : decode cX4_eliminate 53 = .ok (.aaload, 1) := by decide +kernel
theorem dX4_eliminate_54 : decode cX4_eliminate 54 = .ok (.iload_n 2, 1) := by decide +kernel
theorem dX4_eliminate_55 : decode cX4_eliminate 55 = .ok (.laload, 1) := by decide +kernel
theorem dX4_eliminate_56 : decode cX4_eliminate 56 = .ok (.lstore 6, 2) := by decide +kernel
theorem dX4_eliminate_58 : decode cX4_eliminate 58 = .ok (.iload_n 2, 1) := by decide +kernel
theorem dX4_eliminate_59 : decode cX4_eliminate 59 = .ok (.iconst 1, 1) := by decide +kernel
theorem dX4_eliminate_60 : decode cX4_eliminate 60 = .ok (.iadd, 1) := by decide +kernel
theorem dX4_eliminate_61 : decode cX4_eliminate 61 = .ok (.istore 8, 2) := by decide +kernel
theorem dX4_eliminate_63 : decode cX4_eliminate 63 = .ok (.iload 5, 2) := by decide +kernel
theorem dX4_eliminate_65 : decode cX4_eliminate 65 = .ok (.iload_n 2, 1) := by decide +kernel
theorem dX4_eliminate_66 : decode cX4_eliminate 66 = .ok (.if_icmp .eq 57, 3) := by decide +kernel
theorem dX4_eliminate_69 : decode cX4_eliminate 69 = .ok (.iload 8, 2) := by decide +kernel
theorem dX4_eliminate_71 : decode cX4_eliminate 71 = .ok (.iload_n 1, 1) := by decide +kernel
theorem dX4_eliminate_72 : decode cX4_eliminate 72 = .ok (.iconst 2, 1) := by decide +kernel
theorem dX4_eliminate_73 : decode cX4_eliminate 73 = .ok (.iadd, 1) := by decide +kernel
theorem dX4_eliminate_74 : decode cX4_eliminate 74 = .ok (.if_icmp .ge 49, 3) := by decide +kernel
theorem dX4_eliminate_77 : decode cX4_eliminate 77 = .ok (.aload_n 0, 1) := by decide +kernel
theorem dX4_eliminate_78 : decode cX4_eliminate 78 = .ok (.getfield 21, 3) := by decide +kernel
theorem dX4_eliminate_81 : decode cX4_eliminate 81 = .ok (.iload 5, 2) := by decide +kernel
theorem dX4_eliminate_83 : decode cX4_eliminate 83 = .ok (.aaload, 1) := by decide +kernel
theorem dX4_eliminate_84 : decode cX4_eliminate 84 = .ok (.iload 8, 2) := by decide +kernel
theorem dX4_eliminate_86 : decode cX4_eliminate 86 = .ok (.lload_n 3, 1) := by decide +kernel
theorem dX4_eliminate_87 : decode cX4_eliminate 87 = .ok (.aload_n 0, 1) := by decide +kernel
theorem dX4_eliminate_88 : decode cX4_eliminate 88 = .ok (.getfield 21, 3) := by decide +kernel
theorem dX4_eliminate_91 : decode cX4_eliminate 91 = .ok (.iload 5, 2) := by decide +kernel
theorem dX4_eliminate_93 : decode cX4_eliminate 93 = .ok (.aaload, 1) := by decide +kernel
theorem dX4_eliminate_94 : decode cX4_eliminate 94 = .ok (.iload 8, 2) := by decide +kernel
theorem dX4_eliminate_96 : decode cX4_eliminate 96 = .ok (.laload, 1) := by decide +kernel
theorem dX4_eliminate_97 : decode cX4_eliminate 97 = .ok (.lmul, 1) := by decide +kernel
theorem dX4_eliminate_98 : decode cX4_eliminate 98 = .ok (.lload 6, 2) := by decide +kernel
theorem dX4_eliminate_100 : decode cX4_eliminate 100 = .ok (.aload_n 0, 1) := by decide +kernel
theorem dX4_eliminate_101 : decode cX4_eliminate 101 = .ok (.getfield 21, 3) := by decide +kernel
theorem dX4_eliminate_104 : decode cX4_eliminate 104 = .ok (.iload_n 2, 1) := by decide +kernel
theorem dX4_eliminate_105 : decode cX4_eliminate 105 = .ok (.aaload, 1) := by decide +kernel
theorem dX4_eliminate_106 : decode cX4_eliminate 106 = .ok (.iload 8, 2) := by decide +kernel
theorem dX4_eliminate_108 : decode cX4_eliminate 108 = .ok (.laload, 1) := by decide +kernel
theorem dX4_eliminate_109 : decode cX4_eliminate 109 = .ok (.lmul, 1) := by decide +kernel
theorem dX4_eliminate_110 : decode cX4_eliminate 110 = .ok (.lsub, 1) := by decide +kernel
theorem dX4_eliminate_111 : decode cX4_eliminate 111 = .ok (.aload_n 0, 1) := by decide +kernel
theorem dX4_eliminate_112 : decode cX4_eliminate 112 = .ok (.getfield 34, 3) := by decide +kernel
theorem dX4_eliminate_115 : decode cX4_eliminate 115 = .ok (.ldiv, 1) := by decide +kernel
theorem dX4_eliminate_116 : decode cX4_eliminate 116 = .ok (.lastore, 1) := by decide +kernel
theorem dX4_eliminate_117 : decode cX4_eliminate 117 = .ok (.iinc 8 1, 3) := by decide +kernel
theorem dX4_eliminate_120 : decode cX4_eliminate 120 = .ok (.goto (-57), 3) := by decide +kernel
theorem dX4_eliminate_123 : decode cX4_eliminate 123 = .ok (.iinc 5 1, 3) := by decide +kernel
theorem dX4_eliminate_126 : decode cX4_eliminate 126 = .ok (.goto (-85), 3) := by decide +kernel
theorem dX4_eliminate_129 : decode cX4_eliminate 129 = .ok (.aload_n 0, 1) := by decide +kernel
theorem dX4_eliminate_130 : decode cX4_eliminate 130 = .ok (.lload_n 3, 1) := by decide +kernel
theorem dX4_eliminate_131 : decode cX4_eliminate 131 = .ok (.putfield 34, 3) := by decide +kernel
theorem dX4_eliminate_134 : decode cX4_eliminate 134 = .ok (.iinc 2 1, 3) := by decide +kernel
theorem dX4_eliminate_137 : decode cX4_eliminate 137 = .ok (.goto (-122), 3) := by decide +kernel
theorem dX4_eliminate_140 : decode cX4_eliminate 140 = .ok (.return_, 1) := by decide +kernel
theorem dX4_readFlows_0 : decode cX4_readFlows 0 = .ok (.aload_n 0, 1) := by decide +kernel
theorem dX4_readFlows_1 : decode cX4_readFlows 1 = .ok (.getfield 45, 3) := by decide +kernel
theorem dX4_readFlows_4 : decode cX4_readFlows 4 = .ok (.getfield 70, 3) := by decide +kernel
theorem dX4_readFlows_7 : decode cX4_readFlows 7 = .ok (.istore_n 1, 1) := by decide +kernel
theorem dX4_readFlows_8 : decode cX4_readFlows 8 = .ok (.iconst 0, 1) := by decide +kernel
theorem dX4_readFlows_9 : decode cX4_readFlows 9 = .ok (.istore_n 2, 1) := by decide +kernel
theorem dX4_readFlows_10 : decode cX4_readFlows 10 = .ok (.iload_n 2, 1) := by decide +kernel
theorem dX4_readFlows_11 : decode cX4_readFlows 11 = .ok (.iload_n 1, 1) := by decide +kernel
theorem dX4_readFlows_12 : decode cX4_readFlows 12 = .ok (.if_icmp .ge 23, 3) := by decide +kernel
theorem dX4_readFlows_15 : decode cX4_readFlows 15 = .ok (.aload_n 0, 1) := by decide +kernel
theorem dX4_readFlows_16 : decode cX4_readFlows 16 = .ok (.getfield 24, 3) := by decide +kernel
theorem dX4_readFlows_19 : decode cX4_readFlows 19 = .ok (.iload_n 2, 1) := by decide +kernel
theorem dX4_readFlows_20 : decode cX4_readFlows 20 = .ok (.aload_n 0, 1) := by decide +kernel
theorem dX4_readFlows_21 : decode cX4_readFlows 21 = .ok (.getfield 21, 3) := by decide +kernel
theorem dX4_readFlows_24 : decode cX4_readFlows 24 = .ok (.iload_n 2, 1) := by decide +kernel
theorem dX4_readFlows_25 : decode cX4_readFlows 25 = .ok (.aaload, 1) := by decide +kernel
theorem dX4_readFlows_26 : decode cX4_readFlows 26 = .ok (.iload_n 1, 1) := by decide +kernel
theorem dX4_readFlows_27 : decode cX4_readFlows 27 = .ok (.laload, 1) := by decide +kernel
theorem dX4_readFlows_28 : decode cX4_readFlows 28 = .ok (.lastore, 1) := by decide +kernel
theorem dX4_readFlows_29 : decode cX4_readFlows 29 = .ok (.iinc 2 1, 3) := by decide +kernel
theorem dX4_readFlows_32 : decode cX4_readFlows 32 = .ok (.goto (-22), 3) := by decide +kernel
theorem dX4_readFlows_35 : decode cX4_readFlows 35 = .ok (.iconst 0, 1) := by decide +kernel
theorem dX4_readFlows_36 : decode cX4_readFlows 36 = .ok (.istore_n 2, 1) := by decide +kernel
theorem dX4_readFlows_37 : decode cX4_readFlows 37 = .ok (.iload_n 2, 1) := by decide +kernel
theorem dX4_readFlows_38 : decode cX4_readFlows 38 = .ok (.aload_n 0, 1) := by decide +kernel
theorem dX4_readFlows_39 : decode cX4_readFlows 39 = .ok (.getfield 45, 3) := by decide +kernel
theorem dX4_readFlows_42 : decode cX4_readFlows 42 = .ok (.getfield 49, 3) := by decide +kernel
theorem dX4_readFlows_45 : decode cX4_readFlows 45 = .ok (.if_icmp .ge 61, 3) := by decide +kernel
theorem dX4_readFlows_48 : decode cX4_readFlows 48 = .ok (.aload_n 0, 1) := by decide +kernel
theorem dX4_readFlows_49 : decode cX4_readFlows 49 = .ok (.getfield 28, 3) := by decide +kernel
theorem dX4_readFlows_52 : decode cX4_readFlows 52 = .ok (.iload_n 2, 1) := by decide +kernel
theorem dX4_readFlows_53 : decode cX4_readFlows 53 = .ok (.aload_n 0, 1) := by decide +kernel
theorem dX4_readFlows_54 : decode cX4_readFlows 54 = .ok (.getfield 9, 3) := by decide +kernel
theorem dX4_readFlows_57 : decode cX4_readFlows 57 = .ok (.iload_n 2, 1) := by decide +kernel
theorem dX4_readFlows_58 : decode cX4_readFlows 58 = .ok (.baload, 1) := by decide +kernel
theorem dX4_readFlows_59 : decode cX4_readFlows 59 = .ok (.ifCond .eq 12, 3) := by decide +kernel
theorem dX4_readFlows_62 : decode cX4_readFlows 62 = .ok (.aload_n 0, 1) := by decide +kernel
theorem dX4_readFlows_63 : decode cX4_readFlows 63 = .ok (.iload_n 2, 1) := by decide +kernel
theorem dX4_readFlows_64 : decode cX4_readFlows 64 = .ok (.iload_n 1, 1) := by decide +kernel
theorem dX4_readFlows_65 : decode cX4_readFlows 65 = .ok (.invokevirtual 92, 3) := by decide +kernel
theorem dX4_readFlows_68 : decode cX4_readFlows 68 = .ok (.goto 4, 3) := by decide +kernel
theorem dX4_readFlows_71 : decode cX4_readFlows 71 = .ok (.lconst 0, 1) := by decide +kernel
theorem dX4_readFlows_72 : decode cX4_readFlows 72 = .ok (.lastore, 1) := by decide +kernel
theorem dX4_readFlows_73 : decode cX4_readFlows 73 = .ok (.aload_n 0, 1) := by decide +kernel
theorem dX4_readFlows_74 : decode cX4_readFlows 74 = .ok (.getfield 31, 3) := by decide +kernel
theorem dX4_readFlows_77 : decode cX4_readFlows 77 = .ok (.iload_n 2, 1) := by decide +kernel
theorem dX4_readFlows_78 : decode cX4_readFlows 78 = .ok (.aload_n 0, 1) := by decide +kernel
theorem dX4_readFlows_79 : decode cX4_readFlows 79 = .ok (.getfield 9, 3) := by decide +kernel
theorem dX4_readFlows_82 : decode cX4_readFlows 82 = .ok (.iload_n 2, 1) := by decide +kernel
theorem dX4_readFlows_83 : decode cX4_readFlows 83 = .ok (.baload, 1) := by decide +kernel
theorem dX4_readFlows_84 : decode cX4_readFlows 84 = .ok (.ifCond .eq 14, 3) := by decide +kernel
theorem dX4_readFlows_87 : decode cX4_readFlows 87 = .ok (.aload_n 0, 1) := by decide +kernel
theorem dX4_readFlows_88 : decode cX4_readFlows 88 = .ok (.iload_n 2, 1) := by decide +kernel
theorem dX4_readFlows_89 : decode cX4_readFlows 89 = .ok (.iload_n 1, 1) := by decide +kernel
theorem dX4_readFlows_90 : decode cX4_readFlows 90 = .ok (.iconst 1, 1) := by decide +kernel
theorem dX4_readFlows_91 : decode cX4_readFlows 91 = .ok (.iadd, 1) := by decide +kernel
theorem dX4_readFlows_92 : decode cX4_readFlows 92 = .ok (.invokevirtual 92, 3) := by decide +kernel
theorem dX4_readFlows_95 : decode cX4_readFlows 95 = .ok (.goto 4, 3) := by decide +kernel
theorem dX4_readFlows_98 : decode cX4_readFlows 98 = .ok (.lconst 0, 1) := by decide +kernel
theorem dX4_readFlows_99 : decode cX4_readFlows 99 = .ok (.lastore, 1) := by decide +kernel
theorem dX4_readFlows_100 : decode cX4_readFlows 100 = .ok (.iinc 2 1, 3) := by decide +kernel
theorem dX4_readFlows_103 : decode cX4_readFlows 103 = .ok (.goto (-66), 3) := by decide +kernel
theorem dX4_readFlows_106 : decode cX4_readFlows 106 = .ok (.return_, 1) := by decide +kernel
theorem dX4_across_0 : decode cX4_across 0 = .ok (.aload_n 0, 1) := by decide +kernel
theorem dX4_across_1 : decode cX4_across 1 = .ok (.getfield 45, 3) := by decide +kernel
theorem dX4_across_4 : decode cX4_across 4 = .ok (.getfield 80, 3) := by decide +kernel
theorem dX4_across_7 : decode cX4_across 7 = .ok (.iload_n 1, 1) := by decide +kernel
theorem dX4_across_8 : decode cX4_across 8 = .ok (.iaload, 1) := by decide +kernel
theorem dX4_across_9 : decode cX4_across 9 = .ok (.i2l, 1) := by decide +kernel
theorem dX4_across_10 : decode cX4_across 10 = .ok (.aload_n 0, 1) := by decide +kernel
theorem dX4_across_11 : decode cX4_across 11 = .ok (.getfield 21, 3) := by decide +kernel
theorem dX4_across_14 : decode cX4_across 14 = .ok (.aload_n 0, 1) := by decide +kernel
theorem dX4_across_15 : decode cX4_across 15 = .ok (.getfield 45, 3) := by decide +kernel
theorem dX4_across_18 : decode cX4_across 18 = .ok (.getfield 60, 3) := by decide +kernel
theorem dX4_across_21 : decode cX4_across 21 = .ok (.iload_n 1, 1) := by decide +kernel
theorem dX4_across_22 : decode cX4_across 22 = .ok (.iaload, 1) := by decide +kernel
theorem dX4_across_23 : decode cX4_across 23 = .ok (.aaload, 1) := by decide +kernel
theorem dX4_across_24 : decode cX4_across 24 = .ok (.iload_n 2, 1) := by decide +kernel
theorem dX4_across_25 : decode cX4_across 25 = .ok (.laload, 1) := by decide +kernel
theorem dX4_across_26 : decode cX4_across 26 = .ok (.aload_n 0, 1) := by decide +kernel
theorem dX4_across_27 : decode cX4_across 27 = .ok (.getfield 21, 3) := by decide +kernel
theorem dX4_across_30 : decode cX4_across 30 = .ok (.aload_n 0, 1) := by decide +kernel
theorem dX4_across_31 : decode cX4_across 31 = .ok (.getfield 45, 3) := by decide +kernel
theorem dX4_across_34 : decode cX4_across 34 = .ok (.getfield 63, 3) := by decide +kernel
theorem dX4_across_37 : decode cX4_across 37 = .ok (.iload_n 1, 1) := by decide +kernel
theorem dX4_across_38 : decode cX4_across 38 = .ok (.iaload, 1) := by decide +kernel
theorem dX4_across_39 : decode cX4_across 39 = .ok (.aaload, 1) := by decide +kernel
theorem dX4_across_40 : decode cX4_across 40 = .ok (.iload_n 2, 1) := by decide +kernel
theorem dX4_across_41 : decode cX4_across 41 = .ok (.laload, 1) := by decide +kernel
theorem dX4_across_42 : decode cX4_across 42 = .ok (.lsub, 1) := by decide +kernel
theorem dX4_across_43 : decode cX4_across 43 = .ok (.lmul, 1) := by decide +kernel
theorem dX4_across_44 : decode cX4_across 44 = .ok (.lreturn, 1) := by decide +kernel
theorem dX4_load_0 : decode cX4_load 0 = .ok (.aload_n 0, 1) := by decide +kernel
theorem dX4_load_1 : decode cX4_load 1 = .ok (.iconst (-1), 1) := by decide +kernel
theorem dX4_load_2 : decode cX4_load 2 = .ok (.iconst (-1), 1) := by decide +kernel
theorem dX4_load_3 : decode cX4_load 3 = .ok (.invokevirtual 96, 3) := by decide +kernel
theorem dX4_load_6 : decode cX4_load 6 = .ok (.aload_n 0, 1) := by decide +kernel
theorem dX4_load_7 : decode cX4_load 7 = .ok (.iconst (-1), 1) := by decide +kernel
theorem dX4_load_8 : decode cX4_load 8 = .ok (.putfield 38, 3) := by decide +kernel
theorem dX4_load_11 : decode cX4_load 11 = .ok (.aload_n 0, 1) := by decide +kernel
theorem dX4_load_12 : decode cX4_load 12 = .ok (.lconst 0, 1) := by decide +kernel
theorem dX4_load_13 : decode cX4_load 13 = .ok (.putfield 99, 3) := by decide +kernel
theorem dX4_load_16 : decode cX4_load 16 = .ok (.aload_n 0, 1) := by decide +kernel
theorem dX4_load_17 : decode cX4_load 17 = .ok (.lconst 1, 1) := by decide +kernel
theorem dX4_load_18 : decode cX4_load 18 = .ok (.putfield 42, 3) := by decide +kernel
theorem dX4_load_21 : decode cX4_load 21 = .ok (.aload_n 0, 1) := by decide +kernel
theorem dX4_load_22 : decode cX4_load 22 = .ok (.iconst 0, 1) := by decide +kernel
theorem dX4_load_23 : decode cX4_load 23 = .ok (.putfield 102, 3) := by decide +kernel
theorem dX4_load_26 : decode cX4_load 26 = .ok (.iconst 0, 1) := by decide +kernel
theorem dX4_load_27 : decode cX4_load 27 = .ok (.istore_n 1, 1) := by decide +kernel
theorem dX4_load_28 : decode cX4_load 28 = .ok (.iload_n 1, 1) := by decide +kernel
theorem dX4_load_29 : decode cX4_load 29 = .ok (.aload_n 0, 1) := by decide +kernel
theorem dX4_load_30 : decode cX4_load 30 = .ok (.getfield 45, 3) := by decide +kernel
theorem dX4_load_33 : decode cX4_load 33 = .ok (.getfield 49, 3) := by decide +kernel
theorem dX4_load_36 : decode cX4_load 36 = .ok (.if_icmp .ge 47, 3) := by decide +kernel
theorem dX4_load_39 : decode cX4_load 39 = .ok (.aload_n 0, 1) := by decide +kernel
theorem dX4_load_40 : decode cX4_load 40 = .ok (.getfield 9, 3) := by decide +kernel
theorem dX4_load_43 : decode cX4_load 43 = .ok (.iload_n 1, 1) := by decide +kernel
theorem dX4_load_44 : decode cX4_load 44 = .ok (.baload, 1) := by decide +kernel
theorem dX4_load_45 : decode cX4_load 45 = .ok (.ifCond .eq 32, 3) := by decide +kernel
theorem dX4_load_48 : decode cX4_load 48 = .ok (.aload_n 0, 1) := by decide +kernel
theorem dX4_load_49 : decode cX4_load 49 = .ok (.iload_n 1, 1) := by decide +kernel
theorem dX4_load_50 : decode cX4_load 50 = .ok (.aload_n 0, 1) := by decide +kernel
theorem dX4_load_51 : decode cX4_load 51 = .ok (.getfield 28, 3) := by decide +kernel
theorem dX4_load_54 : decode cX4_load 54 = .ok (.iload_n 1, 1) := by decide +kernel
theorem dX4_load_55 : decode cX4_load 55 = .ok (.laload, 1) := by decide +kernel
theorem dX4_load_56 : decode cX4_load 56 = .ok (.invokestatic 105, 3) := by decide +kernel
theorem dX4_load_59 : decode cX4_load 59 = .ok (.aload_n 0, 1) := by decide +kernel
theorem dX4_load_60 : decode cX4_load 60 = .ok (.getfield 34, 3) := by decide +kernel
theorem dX4_load_63 : decode cX4_load 63 = .ok (.aload_n 0, 1) := by decide +kernel
theorem dX4_load_64 : decode cX4_load 64 = .ok (.getfield 45, 3) := by decide +kernel
theorem dX4_load_67 : decode cX4_load 67 = .ok (.getfield 111, 3) := by decide +kernel
theorem dX4_load_70 : decode cX4_load 70 = .ok (.iload_n 1, 1) := by decide +kernel
theorem dX4_load_71 : decode cX4_load 71 = .ok (.iaload, 1) := by decide +kernel
theorem dX4_load_72 : decode cX4_load 72 = .ok (.i2l, 1) := by decide +kernel
theorem dX4_load_73 : decode cX4_load 73 = .ok (.lmul, 1) := by decide +kernel
theorem dX4_load_74 : decode cX4_load 74 = .ok (.invokevirtual 114, 3) := by decide +kernel
theorem dX4_load_77 : decode cX4_load 77 = .ok (.iinc 1 1, 3) := by decide +kernel
theorem dX4_load_80 : decode cX4_load 80 = .ok (.goto (-52), 3) := by decide +kernel
theorem dX4_load_83 : decode cX4_load 83 = .ok (.return_, 1) := by decide +kernel
theorem dX4_weigh_0 : decode cX4_weigh 0 = .ok (.aload_n 0, 1) := by decide +kernel
theorem dX4_weigh_1 : decode cX4_weigh 1 = .ok (.getfield 38, 3) := by decide +kernel
theorem dX4_weigh_4 : decode cX4_weigh 4 = .ok (.iconst (-1), 1) := by decide +kernel
theorem dX4_weigh_5 : decode cX4_weigh 5 = .ok (.if_icmp .eq 20, 3) := by decide +kernel
theorem dX4_weigh_8 : decode cX4_weigh 8 = .ok (.lload_n 2, 1) := by decide +kernel
theorem dX4_weigh_9 : decode cX4_weigh 9 = .ok (.lload 4, 2) := by decide +kernel
theorem dX4_weigh_11 : decode cX4_weigh 11 = .ok (.aload_n 0, 1) := by decide +kernel
theorem dX4_weigh_12 : decode cX4_weigh 12 = .ok (.getfield 99, 3) := by decide +kernel
theorem dX4_weigh_15 : decode cX4_weigh 15 = .ok (.aload_n 0, 1) := by decide +kernel
theorem dX4_weigh_16 : decode cX4_weigh 16 = .ok (.getfield 42, 3) := by decide +kernel
theorem dX4_weigh_19 : decode cX4_weigh 19 = .ok (.invokestatic 118, 3) := by decide +kernel
theorem dX4_weigh_22 : decode cX4_weigh 22 = .ok (.ifCond .eq 19, 3) := by decide +kernel
theorem dX4_weigh_25 : decode cX4_weigh 25 = .ok (.aload_n 0, 1) := by decide +kernel
theorem dX4_weigh_26 : decode cX4_weigh 26 = .ok (.iload_n 1, 1) := by decide +kernel
theorem dX4_weigh_27 : decode cX4_weigh 27 = .ok (.putfield 38, 3) := by decide +kernel
theorem dX4_weigh_30 : decode cX4_weigh 30 = .ok (.aload_n 0, 1) := by decide +kernel
theorem dX4_weigh_31 : decode cX4_weigh 31 = .ok (.lload_n 2, 1) := by decide +kernel
theorem dX4_weigh_32 : decode cX4_weigh 32 = .ok (.putfield 99, 3) := by decide +kernel
theorem dX4_weigh_35 : decode cX4_weigh 35 = .ok (.aload_n 0, 1) := by decide +kernel
theorem dX4_weigh_36 : decode cX4_weigh 36 = .ok (.lload 4, 2) := by decide +kernel
theorem dX4_weigh_38 : decode cX4_weigh 38 = .ok (.putfield 42, 3) := by decide +kernel
theorem dX4_weigh_41 : decode cX4_weigh 41 = .ok (.lload_n 2, 1) := by decide +kernel
theorem dX4_weigh_42 : decode cX4_weigh 42 = .ok (.lload 4, 2) := by decide +kernel
theorem dX4_weigh_44 : decode cX4_weigh 44 = .ok (.lcmp, 1) := by decide +kernel
theorem dX4_weigh_45 : decode cX4_weigh 45 = .ok (.ifCond .le 13, 3) := by decide +kernel
theorem dX4_weigh_48 : decode cX4_weigh 48 = .ok (.aload_n 0, 1) := by decide +kernel
theorem dX4_weigh_49 : decode cX4_weigh 49 = .ok (.dup, 1) := by decide +kernel
theorem dX4_weigh_50 : decode cX4_weigh 50 = .ok (.getfield 102, 3) := by decide +kernel
theorem dX4_weigh_53 : decode cX4_weigh 53 = .ok (.iconst 1, 1) := by decide +kernel
theorem dX4_weigh_54 : decode cX4_weigh 54 = .ok (.iadd, 1) := by decide +kernel
theorem dX4_weigh_55 : decode cX4_weigh 55 = .ok (.putfield 102, 3) := by decide +kernel
theorem dX4_weigh_58 : decode cX4_weigh 58 = .ok (.return_, 1) := by decide +kernel
theorem dX4_room_0 : decode cX4_room 0 = .ok (.aload_n 0, 1) := by decide +kernel
theorem dX4_room_1 : decode cX4_room 1 = .ok (.iload_n 1, 1) := by decide +kernel
theorem dX4_room_2 : decode cX4_room 2 = .ok (.iload_n 2, 1) := by decide +kernel
theorem dX4_room_3 : decode cX4_room 3 = .ok (.invokevirtual 96, 3) := by decide +kernel
theorem dX4_room_6 : decode cX4_room 6 = .ok (.ldc2_w 122, 3) := by decide +kernel
theorem dX4_room_9 : decode cX4_room 9 = .ok (.lstore_n 3, 1) := by decide +kernel
theorem dX4_room_10 : decode cX4_room 10 = .ok (.iconst 0, 1) := by decide +kernel
theorem dX4_room_11 : decode cX4_room 11 = .ok (.istore 5, 2) := by decide +kernel
theorem dX4_room_13 : decode cX4_room 13 = .ok (.iload 5, 2) := by decide +kernel
theorem dX4_room_15 : decode cX4_room 15 = .ok (.aload_n 0, 1) := by decide +kernel
theorem dX4_room_16 : decode cX4_room 16 = .ok (.getfield 45, 3) := by decide +kernel
theorem dX4_room_19 : decode cX4_room 19 = .ok (.getfield 49, 3) := by decide +kernel
theorem dX4_room_22 : decode cX4_room 22 = .ok (.if_icmp .ge 57, 3) := by decide +kernel
theorem dX4_room_25 : decode cX4_room 25 = .ok (.aload_n 0, 1) := by decide +kernel
theorem dX4_room_26 : decode cX4_room 26 = .ok (.getfield 9, 3) := by decide +kernel
theorem dX4_room_29 : decode cX4_room 29 = .ok (.iload 5, 2) := by decide +kernel
theorem dX4_room_31 : decode cX4_room 31 = .ok (.baload, 1) := by decide +kernel
theorem dX4_room_32 : decode cX4_room 32 = .ok (.ifCond .eq 41, 3) := by decide +kernel
theorem dX4_room_35 : decode cX4_room 35 = .ok (.lload_n 3, 1) := by decide +kernel
theorem dX4_room_36 : decode cX4_room 36 = .ok (.aload_n 0, 1) := by decide +kernel
theorem dX4_room_37 : decode cX4_room 37 = .ok (.getfield 28, 3) := by decide +kernel
theorem dX4_room_40 : decode cX4_room 40 = .ok (.iload 5, 2) := by decide +kernel
theorem dX4_room_42 : decode cX4_room 42 = .ok (.laload, 1) := by decide +kernel
theorem dX4_room_43 : decode cX4_room 43 = .ok (.aload_n 0, 1) := by decide +kernel
theorem dX4_room_44 : decode cX4_room 44 = .ok (.getfield 31, 3) := by decide +kernel
theorem dX4_room_47 : decode cX4_room 47 = .ok (.iload 5, 2) := by decide +kernel
theorem dX4_room_49 : decode cX4_room 49 = .ok (.laload, 1) := by decide +kernel
theorem dX4_room_50 : decode cX4_room 50 = .ok (.aload_n 0, 1) := by decide +kernel
theorem dX4_room_51 : decode cX4_room 51 = .ok (.getfield 34, 3) := by decide +kernel
theorem dX4_room_54 : decode cX4_room 54 = .ok (.aload_n 0, 1) := by decide +kernel
theorem dX4_room_55 : decode cX4_room 55 = .ok (.getfield 45, 3) := by decide +kernel
theorem dX4_room_58 : decode cX4_room 58 = .ok (.getfield 111, 3) := by decide +kernel
theorem dX4_room_61 : decode cX4_room 61 = .ok (.iload 5, 2) := by decide +kernel
theorem dX4_room_63 : decode cX4_room 63 = .ok (.iaload, 1) := by decide +kernel
theorem dX4_room_64 : decode cX4_room 64 = .ok (.i2l, 1) := by decide +kernel
theorem dX4_room_65 : decode cX4_room 65 = .ok (.lmul, 1) := by decide +kernel
theorem dX4_room_66 : decode cX4_room 66 = .ok (.invokestatic 124, 3) := by decide +kernel
theorem dX4_room_69 : decode cX4_room 69 = .ok (.invokestatic 128, 3) := by decide +kernel
theorem dX4_room_72 : decode cX4_room 72 = .ok (.lstore_n 3, 1) := by decide +kernel
theorem dX4_room_73 : decode cX4_room 73 = .ok (.iinc 5 1, 3) := by decide +kernel
theorem dX4_room_76 : decode cX4_room 76 = .ok (.goto (-63), 3) := by decide +kernel
theorem dX4_room_79 : decode cX4_room 79 = .ok (.lload_n 3, 1) := by decide +kernel
theorem dX4_room_80 : decode cX4_room 80 = .ok (.l2i, 1) := by decide +kernel
theorem dX4_room_81 : decode cX4_room 81 = .ok (.ireturn, 1) := by decide +kernel
theorem dX4_roomOf_0 : decode cX4_roomOf 0 = .ok (.lload_n 0, 1) := by decide +kernel
theorem dX4_roomOf_1 : decode cX4_roomOf 1 = .ok (.invokestatic 105, 3) := by decide +kernel
theorem dX4_roomOf_4 : decode cX4_roomOf 4 = .ok (.lload 4, 2) := by decide +kernel
theorem dX4_roomOf_6 : decode cX4_roomOf 6 = .ok (.lcmp, 1) := by decide +kernel
theorem dX4_roomOf_7 : decode cX4_roomOf 7 = .ok (.ifCond .le 7, 3) := by decide +kernel
theorem dX4_roomOf_10 : decode cX4_roomOf 10 = .ok (.ldc2_w 132, 3) := by decide +kernel
theorem dX4_roomOf_13 : decode cX4_roomOf 13 = .ok (.lreturn, 1) := by decide +kernel
theorem dX4_roomOf_14 : decode cX4_roomOf 14 = .ok (.lload_n 2, 1) := by decide +kernel
theorem dX4_roomOf_15 : decode cX4_roomOf 15 = .ok (.lconst 0, 1) := by decide +kernel
theorem dX4_roomOf_16 : decode cX4_roomOf 16 = .ok (.lcmp, 1) := by decide +kernel
theorem dX4_roomOf_17 : decode cX4_roomOf 17 = .ok (.ifCond .le 10, 3) := by decide +kernel
theorem dX4_roomOf_20 : decode cX4_roomOf 20 = .ok (.lload 4, 2) := by decide +kernel
theorem dX4_roomOf_22 : decode cX4_roomOf 22 = .ok (.lload_n 0, 1) := by decide +kernel
theorem dX4_roomOf_23 : decode cX4_roomOf 23 = .ok (.lsub, 1) := by decide +kernel
theorem dX4_roomOf_24 : decode cX4_roomOf 24 = .ok (.lload_n 2, 1) := by decide +kernel
theorem dX4_roomOf_25 : decode cX4_roomOf 25 = .ok (.ldiv, 1) := by decide +kernel
theorem dX4_roomOf_26 : decode cX4_roomOf 26 = .ok (.lreturn, 1) := by decide +kernel
theorem dX4_roomOf_27 : decode cX4_roomOf 27 = .ok (.lload_n 2, 1) := by decide +kernel
theorem dX4_roomOf_28 : decode cX4_roomOf 28 = .ok (.lconst 0, 1) := by decide +kernel
theorem dX4_roomOf_29 : decode cX4_roomOf 29 = .ok (.lcmp, 1) := by decide +kernel
theorem dX4_roomOf_30 : decode cX4_roomOf 30 = .ok (.ifCond .ge 11, 3) := by decide +kernel
theorem dX4_roomOf_33 : decode cX4_roomOf 33 = .ok (.lload 4, 2) := by decide +kernel
theorem dX4_roomOf_35 : decode cX4_roomOf 35 = .ok (.lload_n 0, 1) := by decide +kernel
theorem dX4_roomOf_36 : decode cX4_roomOf 36 = .ok (.ladd, 1) := by decide +kernel
theorem dX4_roomOf_37 : decode cX4_roomOf 37 = .ok (.lload_n 2, 1) := by decide +kernel
theorem dX4_roomOf_38 : decode cX4_roomOf 38 = .ok (.lneg, 1) := by decide +kernel
theorem dX4_roomOf_39 : decode cX4_roomOf 39 = .ok (.ldiv, 1) := by decide +kernel
theorem dX4_roomOf_40 : decode cX4_roomOf 40 = .ok (.lreturn, 1) := by decide +kernel
theorem dX4_roomOf_41 : decode cX4_roomOf 41 = .ok (.ldc2_w 122, 3) := by decide +kernel
theorem dX4_roomOf_44 : decode cX4_roomOf 44 = .ok (.lreturn, 1) := by decide +kernel

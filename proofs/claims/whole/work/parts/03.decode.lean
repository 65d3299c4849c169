theorem dX0_init_0 : decode cX0_init 0 = .ok (.aload_n 0, 1) := by decide +kernel
theorem dX0_init_1 : decode cX0_init 1 = .ok (.invokespecial 3, 3) := by decide +kernel
theorem dX0_init_4 : decode cX0_init 4 = .ok (.aload_n 0, 1) := by decide +kernel
theorem dX0_init_5 : decode cX0_init 5 = .ok (.bipush 10, 2) := by decide +kernel
theorem dX0_init_7 : decode cX0_init 7 = .ok (.newarray .int, 2) := by decide +kernel
theorem dX0_init_9 : decode cX0_init 9 = .ok (.putfield 11, 3) := by decide +kernel
theorem dX0_init_12 : decode cX0_init 12 = .ok (.aload_n 0, 1) := by decide +kernel
theorem dX0_init_13 : decode cX0_init 13 = .ok (.bipush 10, 2) := by decide +kernel
theorem dX0_init_15 : decode cX0_init 15 = .ok (.newarray .int, 2) := by decide +kernel
theorem dX0_init_17 : decode cX0_init 17 = .ok (.putfield 15, 3) := by decide +kernel
theorem dX0_init_20 : decode cX0_init 20 = .ok (.aload_n 0, 1) := by decide +kernel
theorem dX0_init_21 : decode cX0_init 21 = .ok (.iconst 0, 1) := by decide +kernel
theorem dX0_init_22 : decode cX0_init 22 = .ok (.putfield 18, 3) := by decide +kernel
theorem dX0_init_25 : decode cX0_init 25 = .ok (.return_, 1) := by decide +kernel
theorem dX0_held_0 : decode cX0_held 0 = .ok (.aload_n 0, 1) := by decide +kernel
theorem dX0_held_1 : decode cX0_held 1 = .ok (.getfield 18, 3) := by decide +kernel
theorem dX0_held_4 : decode cX0_held 4 = .ok (.ireturn, 1) := by decide +kernel
theorem dX0_forget_0 : decode cX0_forget 0 = .ok (.aload_n 0, 1) := by decide +kernel
theorem dX0_forget_1 : decode cX0_forget 1 = .ok (.iconst 0, 1) := by decide +kernel
theorem dX0_forget_2 : decode cX0_forget 2 = .ok (.putfield 18, 3) := by decide +kernel
theorem dX0_forget_5 : decode cX0_forget 5 = .ok (.return_, 1) := by decide +kernel
theorem dX0_remember_0 : decode cX0_remember 0 = .ok (.aload_n 0, 1) := by decide +kernel
theorem dX0_remember_1 : decode cX0_remember 1 = .ok (.getfield 18, 3) := by decide +kernel
theorem dX0_remember_4 : decode cX0_remember 4 = .ok (.bipush 10, 2) := by decide +kernel
theorem dX0_remember_6 : decode cX0_remember 6 = .ok (.if_icmp .lt 7, 3) := by decide +kernel
theorem dX0_remember_9 : decode cX0_remember 9 = .ok (.aload_n 0, 1) := by decide +kernel
theorem dX0_remember_10 : decode cX0_remember 10 = .ok (.invokevirtual 22, 3) := by decide +kernel
theorem dX0_remember_13 : decode cX0_remember 13 = .ok (.aload_n 0, 1) := by decide +kernel
theorem dX0_remember_14 : decode cX0_remember 14 = .ok (.getfield 18, 3) := by decide +kernel
theorem dX0_remember_17 : decode cX0_remember 17 = .ok (.ifCond .lt 42, 3) := by decide +kernel
theorem dX0_remember_20 : decode cX0_remember 20 = .ok (.aload_n 0, 1) := by decide +kernel
theorem dX0_remember_21 : decode cX0_remember 21 = .ok (.getfield 18, 3) := by decide +kernel
theorem dX0_remember_24 : decode cX0_remember 24 = .ok (.bipush 10, 2) := by decide +kernel
theorem dX0_remember_26 : decode cX0_remember 26 = .ok (.if_icmp .ge 33, 3) := by decide +kernel
theorem dX0_remember_29 : decode cX0_remember 29 = .ok (.aload_n 0, 1) := by decide +kernel
theorem dX0_remember_30 : decode cX0_remember 30 = .ok (.getfield 11, 3) := by decide +kernel
theorem dX0_remember_33 : decode cX0_remember 33 = .ok (.aload_n 0, 1) := by decide +kernel
theorem dX0_remember_34 : decode cX0_remember 34 = .ok (.getfield 18, 3) := by decide +kernel
theorem dX0_remember_37 : decode cX0_remember 37 = .ok (.iload_n 1, 1) := by decide +kernel
theorem dX0_remember_38 : decode cX0_remember 38 = .ok (.iastore, 1) := by decide +kernel
theorem dX0_remember_39 : decode cX0_remember 39 = .ok (.aload_n 0, 1) := by decide +kernel
theorem dX0_remember_40 : decode cX0_remember 40 = .ok (.getfield 15, 3) := by decide +kernel
theorem dX0_remember_43 : decode cX0_remember 43 = .ok (.aload_n 0, 1) := by decide +kernel
theorem dX0_remember_44 : decode cX0_remember 44 = .ok (.getfield 18, 3) := by decide +kernel
theorem dX0_remember_47 : decode cX0_remember 47 = .ok (.iload_n 2, 1) := by decide +kernel
theorem dX0_remember_48 : decode cX0_remember 48 = .ok (.iastore, 1) := by decide +kernel
theorem dX0_remember_49 : decode cX0_remember 49 = .ok (.aload_n 0, 1) := by decide +kernel
theorem dX0_remember_50 : decode cX0_remember 50 = .ok (.dup, 1) := by decide +kernel
theorem dX0_remember_51 : decode cX0_remember 51 = .ok (.getfield 18, 3) := by decide +kernel
theorem dX0_remember_54 : decode cX0_remember 54 = .ok (.iconst 1, 1) := by decide +kernel
theorem dX0_remember_55 : decode cX0_remember 55 = .ok (.iadd, 1) := by decide +kernel
theorem dX0_remember_56 : decode cX0_remember 56 = .ok (.putfield 18, 3) := by decide +kernel
theorem dX0_remember_59 : decode cX0_remember 59 = .ok (.return_, 1) := by decide +kernel
theorem dX0_latestAct_0 : decode cX0_latestAct 0 = .ok (.aload_n 0, 1) := by decide +kernel
theorem dX0_latestAct_1 : decode cX0_latestAct 1 = .ok (.getfield 18, 3) := by decide +kernel
theorem dX0_latestAct_4 : decode cX0_latestAct 4 = .ok (.ifCond .le 26, 3) := by decide +kernel
theorem dX0_latestAct_7 : decode cX0_latestAct 7 = .ok (.aload_n 0, 1) := by decide +kernel
theorem dX0_latestAct_8 : decode cX0_latestAct 8 = .ok (.getfield 18, 3) := by decide +kernel
theorem dX0_latestAct_11 : decode cX0_latestAct 11 = .ok (.bipush 10, 2) := by decide +kernel
theorem dX0_latestAct_13 : decode cX0_latestAct 13 = .ok (.if_icmp .gt 17, 3) := by decide +kernel
theorem dX0_latestAct_16 : decode cX0_latestAct 16 = .ok (.aload_n 0, 1) := by decide +kernel
theorem dX0_latestAct_17 : decode cX0_latestAct 17 = .ok (.getfield 11, 3) := by decide +kernel
theorem dX0_latestAct_20 : decode cX0_latestAct 20 = .ok (.aload_n 0, 1) := by decide +kernel
theorem dX0_latestAct_21 : decode cX0_latestAct 21 = .ok (.getfield 18, 3) := by decide +kernel
theorem dX0_latestAct_24 : decode cX0_latestAct 24 = .ok (.iconst 1, 1) := by decide +kernel
theorem dX0_latestAct_25 : decode cX0_latestAct 25 = .ok (.isub, 1) := by decide +kernel
theorem dX0_latestAct_26 : decode cX0_latestAct 26 = .ok (.iaload, 1) := by decide +kernel
theorem dX0_latestAct_27 : decode cX0_latestAct 27 = .ok (.goto 4, 3) := by decide +kernel
theorem dX0_latestAct_30 : decode cX0_latestAct 30 = .ok (.iconst (-1), 1) := by decide +kernel
theorem dX0_latestAct_31 : decode cX0_latestAct 31 = .ok (.ireturn, 1) := by decide +kernel
theorem dX0_latestNumber_0 : decode cX0_latestNumber 0 = .ok (.aload_n 0, 1) := by decide +kernel
theorem dX0_latestNumber_1 : decode cX0_latestNumber 1 = .ok (.getfield 18, 3) := by decide +kernel
theorem dX0_latestNumber_4 : decode cX0_latestNumber 4 = .ok (.ifCond .le 26, 3) := by decide +kernel
theorem dX0_latestNumber_7 : decode cX0_latestNumber 7 = .ok (.aload_n 0, 1) := by decide +kernel
theorem dX0_latestNumber_8 : decode cX0_latestNumber 8 = .ok (.getfield 18, 3) := by decide +kernel
theorem dX0_latestNumber_11 : decode cX0_latestNumber 11 = .ok (.bipush 10, 2) := by decide +kernel
theorem dX0_latestNumber_13 : decode cX0_latestNumber 13 = .ok (.if_icmp .gt 17, 3) := by decide +kernel
theorem dX0_latestNumber_16 : decode cX0_latestNumber 16 = .ok (.aload_n 0, 1) := by decide +kernel
theorem dX0_latestNumber_17 : decode cX0_latestNumber 17 = .ok (.getfield 15, 3) := by decide +kernel
theorem dX0_latestNumber_20 : decode cX0_latestNumber 20 = .ok (.aload_n 0, 1) := by decide +kernel
theorem dX0_latestNumber_21 : decode cX0_latestNumber 21 = .ok (.getfield 18, 3) := by decide +kernel
theorem dX0_latestNumber_24 : decode cX0_latestNumber 24 = .ok (.iconst 1, 1) := by decide +kernel
theorem dX0_latestNumber_25 : decode cX0_latestNumber 25 = .ok (.isub, 1) := by decide +kernel
theorem dX0_latestNumber_26 : decode cX0_latestNumber 26 = .ok (.iaload, 1) := by decide +kernel
theorem dX0_latestNumber_27 : decode cX0_latestNumber 27 = .ok (.goto 4, 3) := by decide +kernel
theorem dX0_latestNumber_30 : decode cX0_latestNumber 30 = .ok (.iconst (-1), 1) := by decide +kernel
theorem dX0_latestNumber_31 : decode cX0_latestNumber 31 = .ok (.ireturn, 1) := by decide +kernel
theorem dX0_dropLatest_0 : decode cX0_dropLatest 0 = .ok (.aload_n 0, 1) := by decide +kernel
theorem dX0_dropLatest_1 : decode cX0_dropLatest 1 = .ok (.getfield 18, 3) := by decide +kernel
theorem dX0_dropLatest_4 : decode cX0_dropLatest 4 = .ok (.ifCond .le 13, 3) := by decide +kernel
theorem dX0_dropLatest_7 : decode cX0_dropLatest 7 = .ok (.aload_n 0, 1) := by decide +kernel
theorem dX0_dropLatest_8 : decode cX0_dropLatest 8 = .ok (.dup, 1) := by decide +kernel
theorem dX0_dropLatest_9 : decode cX0_dropLatest 9 = .ok (.getfield 18, 3) := by decide +kernel
theorem dX0_dropLatest_12 : decode cX0_dropLatest 12 = .ok (.iconst 1, 1) := by decide +kernel
theorem dX0_dropLatest_13 : decode cX0_dropLatest 13 = .ok (.isub, 1) := by decide +kernel
theorem dX0_dropLatest_14 : decode cX0_dropLatest 14 = .ok (.putfield 18, 3) := by decide +kernel
theorem dX0_dropLatest_17 : decode cX0_dropLatest 17 = .ok (.return_, 1) := by decide +kernel
theorem dX0_dropEldest_0 : decode cX0_dropEldest 0 = .ok (.iconst 1, 1) := by decide +kernel
theorem dX0_dropEldest_1 : decode cX0_dropEldest 1 = .ok (.istore_n 1, 1) := by decide +kernel
theorem dX0_dropEldest_2 : decode cX0_dropEldest 2 = .ok (.iload_n 1, 1) := by decide +kernel
theorem dX0_dropEldest_3 : decode cX0_dropEldest 3 = .ok (.bipush 10, 2) := by decide +kernel
theorem dX0_dropEldest_5 : decode cX0_dropEldest 5 = .ok (.if_icmp .ge 37, 3) := by decide +kernel
theorem dX0_dropEldest_8 : decode cX0_dropEldest 8 = .ok (.aload_n 0, 1) := by decide +kernel
theorem dX0_dropEldest_9 : decode cX0_dropEldest 9 = .ok (.getfield 11, 3) := by decide +kernel
theorem dX0_dropEldest_12 : decode cX0_dropEldest 12 = .ok (.iload_n 1, 1) := by decide +kernel
theorem dX0_dropEldest_13 : decode cX0_dropEldest 13 = .ok (.iconst 1, 1) := by decide +kernel
theorem dX0_dropEldest_14 : decode cX0_dropEldest 14 = .ok (.isub, 1) := by decide +kernel
theorem dX0_dropEldest_15 : decode cX0_dropEldest 15 = .ok (.aload_n 0, 1) := by decide +kernel
theorem dX0_dropEldest_16 : decode cX0_dropEldest 16 = .ok (.getfield 11, 3) := by decide +kernel
theorem dX0_dropEldest_19 : decode cX0_dropEldest 19 = .ok (.iload_n 1, 1) := by decide +kernel
theorem dX0_dropEldest_20 : decode cX0_dropEldest 20 = .ok (.iaload, 1) := by decide +kernel
theorem dX0_dropEldest_21 : decode cX0_dropEldest 21 = .ok (.iastore, 1) := by decide +kernel
theorem dX0_dropEldest_22 : decode cX0_dropEldest 22 = .ok (.aload_n 0, 1) := by decide +kernel
theorem dX0_dropEldest_23 : decode cX0_dropEldest 23 = .ok (.getfield 15, 3) := by decide +kernel
theorem dX0_dropEldest_26 : decode cX0_dropEldest 26 = .ok (.iload_n 1, 1) := by decide +kernel
theorem dX0_dropEldest_27 : decode cX0_dropEldest 27 = .ok (.iconst 1, 1) := by decide +kernel
theorem dX0_dropEldest_28 : decode cX0_dropEldest 28 = .ok (.isub, 1) := by decide +kernel
theorem dX0_dropEldest_29 : decode cX0_dropEldest 29 = .ok (.aload_n 0, 1) := by decide +kernel
theorem dX0_dropEldest_30 : decode cX0_dropEldest 30 = .ok (.getfield 15, 3) := by decide +kernel
theorem dX0_dropEldest_33 : decode cX0_dropEldest 33 = .ok (.iload_n 1, 1) := by decide +kernel
theorem dX0_dropEldest_34 : decode cX0_dropEldest 34 = .ok (.iaload, 1) := by decide +kernel
theorem dX0_dropEldest_35 : decode cX0_dropEldest 35 = .ok (.iastore, 1) := by decide +kernel
theorem dX0_dropEldest_36 : decode cX0_dropEldest 36 = .ok (.iinc 1 1, 3) := by decide +kernel
theorem dX0_dropEldest_39 : decode cX0_dropEldest 39 = .ok (.goto (-37), 3) := by decide +kernel
theorem dX0_dropEldest_42 : decode cX0_dropEldest 42 = .ok (.aload_n 0, 1) := by decide +kernel
theorem dX0_dropEldest_43 : decode cX0_dropEldest 43 = .ok (.bipush 9, 2) := by decide +kernel
theorem dX0_dropEldest_45 : decode cX0_dropEldest 45 = .ok (.putfield 18, 3) := by decide +kernel
theorem dX0_dropEldest_48 : decode cX0_dropEldest 48 = .ok (.return_, 1) := by decide +kernel
theorem dX1_init_0 : decode cX1_init 0 = .ok (.aload_n 0, 1) := by decide +kernel
theorem dX1_init_1 : decode cX1_init 1 = .ok (.invokespecial 1, 3) := by decide +kernel
theorem dX1_init_4 : decode cX1_init 4 = .ok (.aload_n 0, 1) := by decide +kernel
theorem dX1_init_5 : decode cX1_init 5 = .ok (.iconst 0, 1) := by decide +kernel
theorem dX1_init_6 : decode cX1_init 6 = .ok (.putfield 7, 3) := by decide +kernel
theorem dX1_init_9 : decode cX1_init 9 = .ok (.aload_n 0, 1) := by decide +kernel
theorem dX1_init_10 : decode cX1_init 10 = .ok (.iconst 0, 1) := by decide +kernel
theorem dX1_init_11 : decode cX1_init 11 = .ok (.putfield 13, 3) := by decide +kernel
theorem dX1_init_14 : decode cX1_init 14 = .ok (.aload_n 0, 1) := by decide +kernel
theorem dX1_init_15 : decode cX1_init 15 = .ok (.iconst 0, 1) := by decide +kernel
theorem dX1_init_16 : decode cX1_init 16 = .ok (.putfield 16, 3) := by decide +kernel
theorem dX1_init_19 : decode cX1_init 19 = .ok (.aload_n 0, 1) := by decide +kernel
theorem dX1_init_20 : decode cX1_init 20 = .ok (.iload_n 1, 1) := by decide +kernel
theorem dX1_init_21 : decode cX1_init 21 = .ok (.putfield 19, 3) := by decide +kernel
theorem dX1_init_24 : decode cX1_init 24 = .ok (.aload_n 0, 1) := by decide +kernel
theorem dX1_init_25 : decode cX1_init 25 = .ok (.iload_n 2, 1) := by decide +kernel
theorem dX1_init_26 : decode cX1_init 26 = .ok (.putfield 23, 3) := by decide +kernel
theorem dX1_init_29 : decode cX1_init 29 = .ok (.aload_n 0, 1) := by decide +kernel
theorem dX1_init_30 : decode cX1_init 30 = .ok (.iload_n 3, 1) := by decide +kernel
theorem dX1_init_31 : decode cX1_init 31 = .ok (.putfield 26, 3) := by decide +kernel
theorem dX1_init_34 : decode cX1_init 34 = .ok (.aload_n 0, 1) := by decide +kernel
theorem dX1_init_35 : decode cX1_init 35 = .ok (.iload 4, 2) := by decide +kernel
theorem dX1_init_37 : decode cX1_init 37 = .ok (.putfield 29, 3) := by decide +kernel
theorem dX1_init_40 : decode cX1_init 40 = .ok (.aload_n 0, 1) := by decide +kernel
theorem dX1_init_41 : decode cX1_init 41 = .ok (.iload 5, 2) := by decide +kernel
theorem dX1_init_43 : decode cX1_init 43 = .ok (.putfield 32, 3) := by decide +kernel
theorem dX1_init_46 : decode cX1_init 46 = .ok (.aload_n 0, 1) := by decide +kernel
theorem dX1_init_47 : decode cX1_init 47 = .ok (.iload 6, 2) := by decide +kernel
theorem dX1_init_49 : decode cX1_init 49 = .ok (.putfield 35, 3) := by decide +kernel
theorem dX1_init_52 : decode cX1_init 52 = .ok (.return_, 1) := by decide +kernel
theorem dX1_isOn_0 : decode cX1_isOn 0 = .ok (.iload_n 1, 1) := by decide +kernel
theorem dX1_isOn_1 : decode cX1_isOn 1 = .ok (.ifCond .lt 26, 3) := by decide +kernel
theorem dX1_isOn_4 : decode cX1_isOn 4 = .ok (.iload_n 1, 1) := by decide +kernel
theorem dX1_isOn_5 : decode cX1_isOn 5 = .ok (.aload_n 0, 1) := by decide +kernel
theorem dX1_isOn_6 : decode cX1_isOn 6 = .ok (.getfield 29, 3) := by decide +kernel
theorem dX1_isOn_9 : decode cX1_isOn 9 = .ok (.if_icmp .ge 18, 3) := by decide +kernel
theorem dX1_isOn_12 : decode cX1_isOn 12 = .ok (.aload_n 0, 1) := by decide +kernel
theorem dX1_isOn_13 : decode cX1_isOn 13 = .ok (.getfield 32, 3) := by decide +kernel
theorem dX1_isOn_16 : decode cX1_isOn 16 = .ok (.iload_n 1, 1) := by decide +kernel
theorem dX1_isOn_17 : decode cX1_isOn 17 = .ok (.ishr, 1) := by decide +kernel
theorem dX1_isOn_18 : decode cX1_isOn 18 = .ok (.iconst 1, 1) := by decide +kernel
theorem dX1_isOn_19 : decode cX1_isOn 19 = .ok (.iand, 1) := by decide +kernel
theorem dX1_isOn_20 : decode cX1_isOn 20 = .ok (.ifCond .eq 7, 3) := by decide +kernel
theorem dX1_isOn_23 : decode cX1_isOn 23 = .ok (.iconst 1, 1) := by decide +kernel
theorem dX1_isOn_24 : decode cX1_isOn 24 = .ok (.goto 4, 3) := by decide +kernel
theorem dX1_isOn_27 : decode cX1_isOn 27 = .ok (.iconst 0, 1) := by decide +kernel
theorem dX1_isOn_28 : decode cX1_isOn 28 = .ok (.ireturn, 1) := by decide +kernel
theorem dX2_init_0 : decode cX2_init 0 = .ok (.aload_n 0, 1) := by decide +kernel
theorem dX2_init_1 : decode cX2_init 1 = .ok (.invokespecial 3, 3) := by decide +kernel
theorem dX2_init_4 : decode cX2_init 4 = .ok (.aload_n 0, 1) := by decide +kernel
theorem dX2_init_5 : decode cX2_init 5 = .ok (.bipush 60, 2) := by decide +kernel
theorem dX2_init_7 : decode cX2_init 7 = .ok (.newarray .int, 2) := by decide +kernel
theorem dX2_init_9 : decode cX2_init 9 = .ok (.putfield 9, 3) := by decide +kernel
theorem dX2_init_12 : decode cX2_init 12 = .ok (.aload_n 0, 1) := by decide +kernel
theorem dX2_init_13 : decode cX2_init 13 = .ok (.bipush 60, 2) := by decide +kernel
theorem dX2_init_15 : decode cX2_init 15 = .ok (.newarray .int, 2) := by decide +kernel
theorem dX2_init_17 : decode cX2_init 17 = .ok (.putfield 15, 3) := by decide +kernel
theorem dX2_init_20 : decode cX2_init 20 = .ok (.aload_n 0, 1) := by decide +kernel
theorem dX2_init_21 : decode cX2_init 21 = .ok (.bipush 60, 2) := by decide +kernel
theorem dX2_init_23 : decode cX2_init 23 = .ok (.newarray .boolean, 2) := by decide +kernel
theorem dX2_init_25 : decode cX2_init 25 = .ok (.putfield 18, 3) := by decide +kernel
theorem dX2_init_28 : decode cX2_init 28 = .ok (.aload_n 0, 1) := by decide +kernel
theorem dX2_init_29 : decode cX2_init 29 = .ok (.iconst 0, 1) := by decide +kernel
theorem dX2_init_30 : decode cX2_init 30 = .ok (.putfield 22, 3) := by decide +kernel
theorem dX2_init_33 : decode cX2_init 33 = .ok (.return_, 1) := by decide +kernel
theorem dX2_size_0 : decode cX2_size 0 = .ok (.aload_n 0, 1) := by decide +kernel
theorem dX2_size_1 : decode cX2_size 1 = .ok (.getfield 22, 3) := by decide +kernel
theorem dX2_size_4 : decode cX2_size 4 = .ok (.ireturn, 1) := by decide +kernel
theorem dX2_numberAt_0 : decode cX2_numberAt 0 = .ok (.iload_n 1, 1) := by decide +kernel
theorem dX2_numberAt_1 : decode cX2_numberAt 1 = .ok (.ifCond .lt 29, 3) := by decide +kernel
theorem dX2_numberAt_4 : decode cX2_numberAt 4 = .ok (.iload_n 1, 1) := by decide +kernel
theorem dX2_numberAt_5 : decode cX2_numberAt 5 = .ok (.aload_n 0, 1) := by decide +kernel
theorem dX2_numberAt_6 : decode cX2_numberAt 6 = .ok (.getfield 22, 3) := by decide +kernel
theorem dX2_numberAt_9 : decode cX2_numberAt 9 = .ok (.if_icmp .ge 21, 3) := by decide +kernel
theorem dX2_numberAt_12 : decode cX2_numberAt 12 = .ok (.iload_n 1, 1) := by decide +kernel
theorem dX2_numberAt_13 : decode cX2_numberAt 13 = .ok (.aload_n 0, 1) := by decide +kernel
theorem dX2_numberAt_14 : decode cX2_numberAt 14 = .ok (.getfield 9, 3) := by decide +kernel
theorem dX2_numberAt_17 : decode cX2_numberAt 17 = .ok (.arraylength, 1) := by decide +kernel
theorem dX2_numberAt_18 : decode cX2_numberAt 18 = .ok (.if_icmp .ge 12, 3) := by decide +kernel
theorem dX2_numberAt_21 : decode cX2_numberAt 21 = .ok (.aload_n 0, 1) := by decide +kernel
theorem dX2_numberAt_22 : decode cX2_numberAt 22 = .ok (.getfield 9, 3) := by decide +kernel
theorem dX2_numberAt_25 : decode cX2_numberAt 25 = .ok (.iload_n 1, 1) := by decide +kernel
theorem dX2_numberAt_26 : decode cX2_numberAt 26 = .ok (.iaload, 1) := by decide +kernel
theorem dX2_numberAt_27 : decode cX2_numberAt 27 = .ok (.goto 4, 3) := by decide +kernel
theorem dX2_numberAt_30 : decode cX2_numberAt 30 = .ok (.iconst (-1), 1) := by decide +kernel
theorem dX2_numberAt_31 : decode cX2_numberAt 31 = .ok (.ireturn, 1) := by decide +kernel
theorem dX2_clear_0 : decode cX2_clear 0 = .ok (.aload_n 0, 1) := by decide +kernel
theorem dX2_clear_1 : decode cX2_clear 1 = .ok (.iconst 0, 1) := by decide +kernel
theorem dX2_clear_2 : decode cX2_clear 2 = .ok (.putfield 22, 3) := by decide +kernel
theorem dX2_clear_5 : decode cX2_clear 5 = .ok (.return_, 1) := by decide +kernel
theorem dX2_insert_0 : decode cX2_insert 0 = .ok (.aload_n 0, 1) := by decide +kernel
theorem dX2_insert_1 : decode cX2_insert 1 = .ok (.getfield 22, 3) := by decide +kernel
theorem dX2_insert_4 : decode cX2_insert 4 = .ok (.ifCond .lt 15, 3) := by decide +kernel
theorem dX2_insert_7 : decode cX2_insert 7 = .ok (.aload_n 0, 1) := by decide +kernel
theorem dX2_insert_8 : decode cX2_insert 8 = .ok (.getfield 22, 3) := by decide +kernel
theorem dX2_insert_11 : decode cX2_insert 11 = .ok (.aload_n 0, 1) := by decide +kernel
theorem dX2_insert_12 : decode cX2_insert 12 = .ok (.getfield 9, 3) := by decide +kernel
theorem dX2_insert_15 : decode cX2_insert 15 = .ok (.arraylength, 1) := by decide +kernel
theorem dX2_insert_16 : decode cX2_insert 16 = .ok (.if_icmp .lt 4, 3) := by decide +kernel
theorem dX2_insert_19 : decode cX2_insert 19 = .ok (.return_, 1) := by decide +kernel
theorem dX2_insert_20 : decode cX2_insert 20 = .ok (.aload_n 0, 1) := by decide +kernel
theorem dX2_insert_21 : decode cX2_insert 21 = .ok (.getfield 22, 3) := by decide +kernel
theorem dX2_insert_24 : decode cX2_insert 24 = .ok (.istore 4, 2) := by decide +kernel
theorem dX2_insert_26 : decode cX2_insert 26 = .ok (.iload 4, 2) := by decide +kernel
theorem dX2_insert_28 : decode cX2_insert 28 = .ok (.ifCond .le 55, 3) := by decide +kernel
theorem dX2_insert_31 : decode cX2_insert 31 = .ok (.aload_n 0, 1) := by decide +kernel
theorem dX2_insert_32 : decode cX2_insert 32 = .ok (.iload_n 2, 1) := by decide +kernel
theorem dX2_insert_33 : decode cX2_insert 33 = .ok (.iload_n 3, 1) := by decide +kernel
theorem dX2_insert_34 : decode cX2_insert 34 = .ok (.iload 4, 2) := by decide +kernel
theorem dX2_insert_36 : decode cX2_insert 36 = .ok (.iconst 1, 1) := by decide +kernel
theorem dX2_insert_37 : decode cX2_insert 37 = .ok (.isub, 1) := by decide +kernel
theorem dX2_insert_38 : decode cX2_insert 38 = .ok (.invokevirtual 26, 3) := by decide +kernel
theorem dX2_insert_41 : decode cX2_insert 41 = .ok (.ifCond .eq 42, 3) := by decide +kernel
theorem dX2_insert_44 : decode cX2_insert 44 = .ok (.aload_n 0, 1) := by decide +kernel
theorem dX2_insert_45 : decode cX2_insert 45 = .ok (.iload 4, 2) := by decide +kernel
theorem dX2_insert_47 : decode cX2_insert 47 = .ok (.aload_n 0, 1) := by decide +kernel
theorem dX2_insert_48 : decode cX2_insert 48 = .ok (.getfield 9, 3) := by decide +kernel
theorem dX2_insert_51 : decode cX2_insert 51 = .ok (.iload 4, 2) := by decide +kernel
theorem dX2_insert_53 : decode cX2_insert 53 = .ok (.iconst 1, 1) := by decide +kernel
theorem dX2_insert_54 : decode cX2_insert 54 = .ok (.isub, 1) := by decide +kernel
theorem dX2_insert_55 : decode cX2_insert 55 = .ok (.iaload, 1) := by decide +kernel
theorem dX2_insert_56 : decode cX2_insert 56 = .ok (.aload_n 0, 1) := by decide +kernel
theorem dX2_insert_57 : decode cX2_insert 57 = .ok (.getfield 18, 3) := by decide +kernel
theorem dX2_insert_60 : decode cX2_insert 60 = .ok (.iload 4, 2) := by decide +kernel
theorem dX2_insert_62 : decode cX2_insert 62 = .ok (.iconst 1, 1) := by decide +kernel
theorem dX2_insert_63 : decode cX2_insert 63 = .ok (.isub, 1) := by decide +kernel
theorem dX2_insert_64 : decode cX2_insert 64 = .ok (.baload, 1) := by decide +kernel
theorem dX2_insert_65 : decode cX2_insert 65 = .ok (.aload_n 0, 1) := by decide +kernel
theorem dX2_insert_66 : decode cX2_insert 66 = .ok (.getfield 15, 3) := by decide +kernel
theorem dX2_insert_69 : decode cX2_insert 69 = .ok (.iload 4, 2) := by decide +kernel
theorem dX2_insert_71 : decode cX2_insert 71 = .ok (.iconst 1, 1) := by decide +kernel
theorem dX2_insert_72 : decode cX2_insert 72 = .ok (.isub, 1) := by decide +kernel
theorem dX2_insert_73 : decode cX2_insert 73 = .ok (.iaload, 1) := by decide +kernel
theorem dX2_insert_74 : decode cX2_insert 74 = .ok (.invokevirtual 30, 3) := by decide +kernel
theorem dX2_insert_77 : decode cX2_insert 77 = .ok (.iinc 4 (-1), 3) := by decide +kernel
theorem dX2_insert_80 : decode cX2_insert 80 = .ok (.goto (-54), 3) := by decide +kernel
theorem dX2_insert_83 : decode cX2_insert 83 = .ok (.aload_n 0, 1) := by decide +kernel
theorem dX2_insert_84 : decode cX2_insert 84 = .ok (.iload 4, 2) := by decide +kernel
theorem dX2_insert_86 : decode cX2_insert 86 = .ok (.iload_n 1, 1) := by decide +kernel
theorem dX2_insert_87 : decode cX2_insert 87 = .ok (.iload_n 2, 1) := by decide +kernel
theorem dX2_insert_88 : decode cX2_insert 88 = .ok (.iload_n 3, 1) := by decide +kernel
theorem dX2_insert_89 : decode cX2_insert 89 = .ok (.invokevirtual 30, 3) := by decide +kernel
theorem dX2_insert_92 : decode cX2_insert 92 = .ok (.aload_n 0, 1) := by decide +kernel
theorem dX2_insert_93 : decode cX2_insert 93 = .ok (.dup, 1) := by decide +kernel
theorem dX2_insert_94 : decode cX2_insert 94 = .ok (.getfield 22, 3) := by decide +kernel
theorem dX2_insert_97 : decode cX2_insert 97 = .ok (.iconst 1, 1) := by decide +kernel
theorem dX2_insert_98 : decode cX2_insert 98 = .ok (.iadd, 1) := by decide +kernel
theorem dX2_insert_99 : decode cX2_insert 99 = .ok (.putfield 22, 3) := by decide +kernel
theorem dX2_insert_102 : decode cX2_insert 102 = .ok (.return_, 1) := by decide +kernel
theorem dX2_goesAhead_0 : decode cX2_goesAhead 0 = .ok (.iload_n 3, 1) := by decide +kernel
theorem dX2_goesAhead_1 : decode cX2_goesAhead 1 = .ok (.ifCond .lt 12, 3) := by decide +kernel
theorem dX2_goesAhead_4 : decode cX2_goesAhead 4 = .ok (.iload_n 3, 1) := by decide +kernel
theorem dX2_goesAhead_5 : decode cX2_goesAhead 5 = .ok (.aload_n 0, 1) := by decide +kernel
theorem dX2_goesAhead_6 : decode cX2_goesAhead 6 = .ok (.getfield 9, 3) := by decide +kernel
theorem dX2_goesAhead_9 : decode cX2_goesAhead 9 = .ok (.arraylength, 1) := by decide +kernel
theorem dX2_goesAhead_10 : decode cX2_goesAhead 10 = .ok (.if_icmp .lt 5, 3) := by decide +kernel
theorem dX2_goesAhead_13 : decode cX2_goesAhead 13 = .ok (.iconst 0, 1) := by decide +kernel
theorem dX2_goesAhead_14 : decode cX2_goesAhead 14 = .ok (.ireturn, 1) := by decide +kernel
theorem dX2_goesAhead_15 : decode cX2_goesAhead 15 = .ok (.iload_n 1, 1) := by decide +kernel
theorem dX2_goesAhead_16 : decode cX2_goesAhead 16 = .ok (.aload_n 0, 1) := by decide +kernel
theorem dX2_goesAhead_17 : decode cX2_goesAhead 17 = .ok (.getfield 18, 3) := by decide +kernel
theorem dX2_goesAhead_20 : decode cX2_goesAhead 20 = .ok (.iload_n 3, 1) := by decide +kernel
theorem dX2_goesAhead_21 : decode cX2_goesAhead 21 = .ok (.baload, 1) := by decide +kernel
theorem dX2_goesAhead_22 : decode cX2_goesAhead 22 = .ok (.if_icmp .ne 21, 3) := by decide +kernel
theorem dX2_goesAhead_25 : decode cX2_goesAhead 25 = .ok (.iload_n 2, 1) := by decide +kernel
theorem dX2_goesAhead_26 : decode cX2_goesAhead 26 = .ok (.aload_n 0, 1) := by decide +kernel
theorem dX2_goesAhead_27 : decode cX2_goesAhead 27 = .ok (.getfield 15, 3) := by decide +kernel
theorem dX2_goesAhead_30 : decode cX2_goesAhead 30 = .ok (.iload_n 3, 1) := by decide +kernel
theorem dX2_goesAhead_31 : decode cX2_goesAhead 31 = .ok (.iaload, 1) := by decide +kernel
theorem dX2_goesAhead_32 : decode cX2_goesAhead 32 = .ok (.if_icmp .ge 7, 3) := by decide +kernel
theorem dX2_goesAhead_35 : decode cX2_goesAhead 35 = .ok (.iconst 1, 1) := by decide +kernel
theorem dX2_goesAhead_36 : decode cX2_goesAhead 36 = .ok (.goto 8, 3) := by decide +kernel
theorem dX2_goesAhead_39 : decode cX2_goesAhead 39 = .ok (.iconst 0, 1) := by decide +kernel
theorem dX2_goesAhead_40 : decode cX2_goesAhead 40 = .ok (.goto 4, 3) := by decide +kernel
theorem dX2_goesAhead_43 : decode cX2_goesAhead 43 = .ok (.iload_n 1, 1) := by decide +kernel
theorem dX2_goesAhead_44 : decode cX2_goesAhead 44 = .ok (.ireturn, 1) := by decide +kernel
theorem dX2_write_0 : decode cX2_write 0 = .ok (.iload_n 1, 1) := by decide +kernel
theorem dX2_write_1 : decode cX2_write 1 = .ok (.ifCond .lt 34, 3) := by decide +kernel
theorem dX2_write_4 : decode cX2_write 4 = .ok (.iload_n 1, 1) := by decide +kernel
theorem dX2_write_5 : decode cX2_write 5 = .ok (.aload_n 0, 1) := by decide +kernel
theorem dX2_write_6 : decode cX2_write 6 = .ok (.getfield 9, 3) := by decide +kernel
theorem dX2_write_9 : decode cX2_write 9 = .ok (.arraylength, 1) := by decide +kernel
theorem dX2_write_10 : decode cX2_write 10 = .ok (.if_icmp .ge 25, 3) := by decide +kernel
theorem dX2_write_13 : decode cX2_write 13 = .ok (.aload_n 0, 1) := by decide +kernel
theorem dX2_write_14 : decode cX2_write 14 = .ok (.getfield 9, 3) := by decide +kernel
theorem dX2_write_17 : decode cX2_write 17 = .ok (.iload_n 1, 1) := by decide +kernel
theorem dX2_write_18 : decode cX2_write 18 = .ok (.iload_n 2, 1) := by decide +kernel
theorem dX2_write_19 : decode cX2_write 19 = .ok (.iastore, 1) := by decide +kernel
theorem dX2_write_20 : decode cX2_write 20 = .ok (.aload_n 0, 1) := by decide +kernel
theorem dX2_write_21 : decode cX2_write 21 = .ok (.getfield 18, 3) := by decide +kernel
theorem dX2_write_24 : decode cX2_write 24 = .ok (.iload_n 1, 1) := by decide +kernel
theorem dX2_write_25 : decode cX2_write 25 = .ok (.iload_n 3, 1) := by decide +kernel
theorem dX2_write_26 : decode cX2_write 26 = .ok (.bastore, 1) := by decide +kernel
theorem dX2_write_27 : decode cX2_write 27 = .ok (.aload_n 0, 1) := by decide +kernel
theorem dX2_write_28 : decode cX2_write 28 = .ok (.getfield 15, 3) := by decide +kernel
theorem dX2_write_31 : decode cX2_write 31 = .ok (.iload_n 1, 1) := by decide +kernel
theorem dX2_write_32 : decode cX2_write 32 = .ok (.iload 4, 2) := by decide +kernel
theorem dX2_write_34 : decode cX2_write 34 = .ok (.iastore, 1) := by decide +kernel
theorem dX2_write_35 : decode cX2_write 35 = .ok (.return_, 1) := by decide +kernel
theorem dX3_init_0 : decode cX3_init 0 = .ok (.aload_n 0, 1) := by decide +kernel
theorem dX3_init_1 : decode cX3_init 1 = .ok (.invokespecial 5, 3) := by decide +kernel
theorem dX3_init_4 : decode cX3_init 4 = .ok (.aload_n 0, 1) := by decide +kernel
theorem dX3_init_5 : decode cX3_init 5 = .ok (.bipush 100, 2) := by decide +kernel
theorem dX3_init_7 : decode cX3_init 7 = .ok (.newarray .byte, 2) := by decide +kernel
theorem dX3_init_9 : decode cX3_init 9 = .ok (.putfield 11, 3) := by decide +kernel
theorem dX3_init_12 : decode cX3_init 12 = .ok (.aload_n 0, 1) := by decide +kernel
theorem dX3_init_13 : decode cX3_init 13 = .ok (.bipush 100, 2) := by decide +kernel
theorem dX3_init_15 : decode cX3_init 15 = .ok (.newarray .int, 2) := by decide +kernel
theorem dX3_init_17 : decode cX3_init 17 = .ok (.putfield 15, 3) := by decide +kernel
theorem dX3_init_20 : decode cX3_init 20 = .ok (.aload_n 0, 1) := by decide +kernel
theorem dX3_init_21 : decode cX3_init 21 = .ok (.iconst 0, 1) := by decide +kernel
theorem dX3_init_22 : decode cX3_init 22 = .ok (.putfield 19, 3) := by decide +kernel
theorem dX3_init_25 : decode cX3_init 25 = .ok (.aload_n 0, 1) := by decide +kernel
theorem dX3_init_26 : decode cX3_init 26 = .ok (.iconst 0, 1) := by decide +kernel
theorem dX3_init_27 : decode cX3_init 27 = .ok (.putfield 23, 3) := by decide +kernel
theorem dX3_init_30 : decode cX3_init 30 = .ok (.aload_n 0, 1) := by decide +kernel
theorem dX3_init_31 : decode cX3_init 31 = .ok (.iconst 0, 1) := by decide +kernel
theorem dX3_init_32 : decode cX3_init 32 = .ok (.putfield 26, 3) := by decide +kernel
theorem dX3_init_35 : decode cX3_init 35 = .ok (.aload_n 0, 1) := by decide +kernel
theorem dX3_init_36 : decode cX3_init 36 = .ok (.iconst 0, 1) := by decide +kernel
theorem dX3_init_37 : decode cX3_init 37 = .ok (.putfield 29, 3) := by decide +kernel
theorem dX3_init_40 : decode cX3_init 40 = .ok (.return_, 1) := by decide +kernel
theorem dX3_signOf_0 : decode cX3_signOf 0 = .ok (.iload_n 0, 1) := by decide +kernel
theorem dX3_signOf_1 : decode cX3_signOf 1 = .ok (.bipush 28, 2) := by decide +kernel
theorem dX3_signOf_3 : decode cX3_signOf 3 = .ok (.ishr, 1) := by decide +kernel
theorem dX3_signOf_4 : decode cX3_signOf 4 = .ok (.ireturn, 1) := by decide +kernel
theorem dX3_passes_0 : decode cX3_passes 0 = .ok (.iload_n 0, 1) := by decide +kernel
theorem dX3_passes_1 : decode cX3_passes 1 = .ok (.bipush 14, 2) := by decide +kernel
theorem dX3_passes_3 : decode cX3_passes 3 = .ok (.ishr, 1) := by decide +kernel
theorem dX3_passes_4 : decode cX3_passes 4 = .ok (.sipush 16383, 3) := by decide +kernel
theorem dX3_passes_7 : decode cX3_passes 7 = .ok (.iand, 1) := by decide +kernel
theorem dX3_passes_8 : decode cX3_passes 8 = .ok (.istore 4, 2) := by decide +kernel
theorem dX3_passes_10 : decode cX3_passes 10 = .ok (.iload_n 0, 1) := by decide +kernel
theorem dX3_passes_11 : decode cX3_passes 11 = .ok (.sipush 16383, 3) := by decide +kernel
theorem dX3_passes_14 : decode cX3_passes 14 = .ok (.iand, 1) := by decide +kernel
theorem dX3_passes_15 : decode cX3_passes 15 = .ok (.istore 5, 2) := by decide +kernel
theorem dX3_passes_17 : decode cX3_passes 17 = .ok (.iload_n 0, 1) := by decide +kernel
theorem dX3_passes_18 : decode cX3_passes 18 = .ok (.invokestatic 33, 3) := by decide +kernel
theorem dX3_passes_21 : decode cX3_passes 21 = .ok (.lookupswitch 57 #[(0, 27), (1, 39)], 27) := by decide +kernel
theorem dX3_passes_48 : decode cX3_passes 48 = .ok (.iload_n 1, 1) := by decide +kernel
theorem dX3_passes_49 : decode cX3_passes 49 = .ok (.iload 4, 2) := by decide +kernel
theorem dX3_passes_51 : decode cX3_passes 51 = .ok (.if_icmp .ne 7, 3) := by decide +kernel
theorem dX3_passes_54 : decode cX3_passes 54 = .ok (.iconst 1, 1) := by decide +kernel
theorem dX3_passes_55 : decode cX3_passes 55 = .ok (.goto 4, 3) := by decide +kernel
theorem dX3_passes_58 : decode cX3_passes 58 = .ok (.iconst 0, 1) := by decide +kernel
theorem dX3_passes_59 : decode cX3_passes 59 = .ok (.ireturn, 1) := by decide +kernel
theorem dX3_passes_60 : decode cX3_passes 60 = .ok (.iload_n 2, 1) := by decide +kernel
theorem dX3_passes_61 : decode cX3_passes 61 = .ok (.iload 4, 2) := by decide +kernel
theorem dX3_passes_63 : decode cX3_passes 63 = .ok (.if_icmp .lt 13, 3) := by decide +kernel
theorem dX3_passes_66 : decode cX3_passes 66 = .ok (.iload_n 2, 1) := by decide +kernel
theorem dX3_passes_67 : decode cX3_passes 67 = .ok (.iload 5, 2) := by decide +kernel
theorem dX3_passes_69 : decode cX3_passes 69 = .ok (.if_icmp .gt 7, 3) := by decide +kernel
theorem dX3_passes_72 : decode cX3_passes 72 = .ok (.iconst 1, 1) := by decide +kernel
theorem dX3_passes_73 : decode cX3_passes 73 = .ok (.goto 4, 3) := by decide +kernel
theorem dX3_passes_76 : decode cX3_passes 76 = .ok (.iconst 0, 1) := by decide +kernel
theorem dX3_passes_77 : decode cX3_passes 77 = .ok (.ireturn, 1) := by decide +kernel
theorem dX3_passes_78 : decode cX3_passes 78 = .ok (.iload_n 3, 1) := by decide +kernel
theorem dX3_passes_79 : decode cX3_passes 79 = .ok (.iload 4, 2) := by decide +kernel
theorem dX3_passes_81 : decode cX3_passes 81 = .ok (.ishr, 1) := by decide +kernel
theorem dX3_passes_82 : decode cX3_passes 82 = .ok (.iconst 1, 1) := by decide +kernel
theorem dX3_passes_83 : decode cX3_passes 83 = .ok (.iand, 1) := by decide +kernel
theorem dX3_passes_84 : decode cX3_passes 84 = .ok (.ifCond .eq 7, 3) := by decide +kernel
theorem dX3_passes_87 : decode cX3_passes 87 = .ok (.iconst 1, 1) := by decide +kernel
theorem dX3_passes_88 : decode cX3_passes 88 = .ok (.goto 4, 3) := by decide +kernel
theorem dX3_passes_91 : decode cX3_passes 91 = .ok (.iconst 0, 1) := by decide +kernel
theorem dX3_passes_92 : decode cX3_passes 92 = .ok (.ireturn, 1) := by decide +kernel
theorem dX3_size_0 : decode cX3_size 0 = .ok (.aload_n 0, 1) := by decide +kernel
theorem dX3_size_1 : decode cX3_size 1 = .ok (.getfield 26, 3) := by decide +kernel
theorem dX3_size_4 : decode cX3_size 4 = .ok (.ireturn, 1) := by decide +kernel
theorem dX3_stepAt_0 : decode cX3_stepAt 0 = .ok (.iload_n 1, 1) := by decide +kernel
theorem dX3_stepAt_1 : decode cX3_stepAt 1 = .ok (.ifCond .lt 29, 3) := by decide +kernel
theorem dX3_stepAt_4 : decode cX3_stepAt 4 = .ok (.iload_n 1, 1) := by decide +kernel
theorem dX3_stepAt_5 : decode cX3_stepAt 5 = .ok (.aload_n 0, 1) := by decide +kernel
theorem dX3_stepAt_6 : decode cX3_stepAt 6 = .ok (.getfield 26, 3) := by decide +kernel
theorem dX3_stepAt_9 : decode cX3_stepAt 9 = .ok (.if_icmp .ge 21, 3) := by decide +kernel
theorem dX3_stepAt_12 : decode cX3_stepAt 12 = .ok (.iload_n 1, 1) := by decide +kernel
theorem dX3_stepAt_13 : decode cX3_stepAt 13 = .ok (.aload_n 0, 1) := by decide +kernel
theorem dX3_stepAt_14 : decode cX3_stepAt 14 = .ok (.getfield 15, 3) := by decide +kernel
theorem dX3_stepAt_17 : decode cX3_stepAt 17 = .ok (.arraylength, 1) := by decide +kernel
theorem dX3_stepAt_18 : decode cX3_stepAt 18 = .ok (.if_icmp .ge 12, 3) := by decide +kernel
theorem dX3_stepAt_21 : decode cX3_stepAt 21 = .ok (.aload_n 0, 1) := by decide +kernel
theorem dX3_stepAt_22 : decode cX3_stepAt 22 = .ok (.getfield 15, 3) := by decide +kernel
theorem dX3_stepAt_25 : decode cX3_stepAt 25 = .ok (.iload_n 1, 1) := by decide +kernel
theorem dX3_stepAt_26 : decode cX3_stepAt 26 = .ok (.iaload, 1) := by decide +kernel
theorem dX3_stepAt_27 : decode cX3_stepAt 27 = .ok (.goto 4, 3) := by decide +kernel
theorem dX3_stepAt_30 : decode cX3_stepAt 30 = .ok (.iconst 0, 1) := by decide +kernel
theorem dX3_stepAt_31 : decode cX3_stepAt 31 = .ok (.ireturn, 1) := by decide +kernel
theorem dX3_read_0 : decode cX3_read 0 = .ok (.aload_n 0, 1) := by decide +kernel
theorem dX3_read_1 : decode cX3_read 1 = .ok (.aload_n 1, 1) := by decide +kernel
theorem dX3_read_2 : decode cX3_read 2 = .ok (.ifnonnull 7, 3) := by decide +kernel
theorem dX3_read_5 : decode cX3_read 5 = .ok (.iconst 0, 1) := by decide +kernel
theorem dX3_read_6 : decode cX3_read 6 = .ok (.goto 21, 3) := by decide +kernel
theorem dX3_read_9 : decode cX3_read 9 = .ok (.iload_n 2, 1) := by decide +kernel
theorem dX3_read_10 : decode cX3_read 10 = .ok (.iconst 0, 1) := by decide +kernel
theorem dX3_read_11 : decode cX3_read 11 = .ok (.invokestatic 37, 3) := by decide +kernel
theorem dX3_read_14 : decode cX3_read 14 = .ok (.aload_n 1, 1) := by decide +kernel
theorem dX3_read_15 : decode cX3_read 15 = .ok (.arraylength, 1) := by decide +kernel
theorem dX3_read_16 : decode cX3_read 16 = .ok (.aload_n 0, 1) := by decide +kernel
theorem dX3_read_17 : decode cX3_read 17 = .ok (.getfield 11, 3) := by decide +kernel
theorem dX3_read_20 : decode cX3_read 20 = .ok (.arraylength, 1) := by decide +kernel
theorem dX3_read_21 : decode cX3_read 21 = .ok (.invokestatic 43, 3) := by decide +kernel
theorem dX3_read_24 : decode cX3_read 24 = .ok (.invokestatic 43, 3) := by decide +kernel
theorem dX3_read_27 : decode cX3_read 27 = .ok (.putfield 19, 3) := by decide +kernel
theorem dX3_read_30 : decode cX3_read 30 = .ok (.iconst 0, 1) := by decide +kernel
theorem dX3_read_31 : decode cX3_read 31 = .ok (.istore_n 3, 1) := by decide +kernel
theorem dX3_read_32 : decode cX3_read 32 = .ok (.iload_n 3, 1) := by decide +kernel
theorem dX3_read_33 : decode cX3_read 33 = .ok (.aload_n 0, 1) := by decide +kernel
theorem dX3_read_34 : decode cX3_read 34 = .ok (.getfield 19, 3) := by decide +kernel
theorem dX3_read_37 : decode cX3_read 37 = .ok (.if_icmp .ge 18, 3) := by decide +kernel
theorem dX3_read_40 : decode cX3_read 40 = .ok (.aload_n 0, 1) := by decide +kernel
theorem dX3_read_41 : decode cX3_read 41 = .ok (.getfield 11, 3) := by decide +kernel
theorem dX3_read_44 : decode cX3_read 44 = .ok (.iload_n 3, 1) := by decide +kernel
theorem dX3_read_45 : decode cX3_read 45 = .ok (.aload_n 1, 1) := by decide +kernel
theorem dX3_read_46 : decode cX3_read 46 = .ok (.iload_n 3, 1) := by decide +kernel
theorem dX3_read_47 : decode cX3_read 47 = .ok (.baload, 1) := by decide +kernel
theorem dX3_read_48 : decode cX3_read 48 = .ok (.bastore, 1) := by decide +kernel
theorem dX3_read_49 : decode cX3_read 49 = .ok (.iinc 3 1, 3) := by decide +kernel
theorem dX3_read_52 : decode cX3_read 52 = .ok (.goto (-20), 3) := by decide +kernel
theorem dX3_read_55 : decode cX3_read 55 = .ok (.aload_n 0, 1) := by decide +kernel
theorem dX3_read_56 : decode cX3_read 56 = .ok (.iconst 0, 1) := by decide +kernel
theorem dX3_read_57 : decode cX3_read 57 = .ok (.putfield 23, 3) := by decide +kernel
theorem dX3_read_60 : decode cX3_read 60 = .ok (.aload_n 0, 1) := by decide +kernel
theorem dX3_read_61 : decode cX3_read 61 = .ok (.iconst 0, 1) := by decide +kernel
theorem dX3_read_62 : decode cX3_read 62 = .ok (.putfield 26, 3) := by decide +kernel
theorem dX3_read_65 : decode cX3_read 65 = .ok (.aload_n 0, 1) := by decide +kernel
theorem dX3_read_66 : decode cX3_read 66 = .ok (.iconst 0, 1) := by decide +kernel
theorem dX3_read_67 : decode cX3_read 67 = .ok (.putfield 29, 3) := by decide +kernel
theorem dX3_read_70 : decode cX3_read 70 = .ok (.aload_n 0, 1) := by decide +kernel
theorem dX3_read_71 : decode cX3_read 71 = .ok (.iconst 0, 1) := by decide +kernel
theorem dX3_read_72 : decode cX3_read 72 = .ok (.invokevirtual 46, 3) := by decide +kernel
theorem dX3_read_75 : decode cX3_read 75 = .ok (.aload_n 0, 1) := by decide +kernel
theorem dX3_read_76 : decode cX3_read 76 = .ok (.invokevirtual 50, 3) := by decide +kernel
theorem dX3_read_79 : decode cX3_read 79 = .ok (.iconst (-1), 1) := by decide +kernel
theorem dX3_read_80 : decode cX3_read 80 = .ok (.if_icmp .eq 8, 3) := by decide +kernel
theorem dX3_read_83 : decode cX3_read 83 = .ok (.aload_n 0, 1) := by decide +kernel
theorem dX3_read_84 : decode cX3_read 84 = .ok (.iconst 1, 1) := by decide +kernel
theorem dX3_read_85 : decode cX3_read 85 = .ok (.putfield 29, 3) := by decide +kernel
theorem dX3_read_88 : decode cX3_read 88 = .ok (.aload_n 0, 1) := by decide +kernel
theorem dX3_read_89 : decode cX3_read 89 = .ok (.getfield 29, 3) := by decide +kernel
theorem dX3_read_92 : decode cX3_read 92 = .ok (.ifCond .eq 10, 3) := by decide +kernel
theorem dX3_read_95 : decode cX3_read 95 = .ok (.aload_n 0, 1) := by decide +kernel
theorem dX3_read_96 : decode cX3_read 96 = .ok (.getfield 23, 3) := by decide +kernel
theorem dX3_read_99 : decode cX3_read 99 = .ok (.goto 4, 3) := by decide +kernel
theorem dX3_read_102 : decode cX3_read 102 = .ok (.iconst (-1), 1) := by decide +kernel
theorem dX3_read_103 : decode cX3_read 103 = .ok (.ireturn, 1) := by decide +kernel
theorem dX3_readAny_0 : decode cX3_readAny 0 = .ok (.aload_n 0, 1) := by decide +kernel
theorem dX3_readAny_1 : decode cX3_readAny 1 = .ok (.iload_n 1, 1) := by decide +kernel
theorem dX3_readAny_2 : decode cX3_readAny 2 = .ok (.invokevirtual 54, 3) := by decide +kernel
theorem dX3_readAny_5 : decode cX3_readAny 5 = .ok (.iconst 0, 1) := by decide +kernel
theorem dX3_readAny_6 : decode cX3_readAny 6 = .ok (.istore_n 2, 1) := by decide +kernel
theorem dX3_readAny_7 : decode cX3_readAny 7 = .ok (.iload_n 2, 1) := by decide +kernel
theorem dX3_readAny_8 : decode cX3_readAny 8 = .ok (.bipush 100, 2) := by decide +kernel
theorem dX3_readAny_10 : decode cX3_readAny 10 = .ok (.if_icmp .ge 30, 3) := by decide +kernel
theorem dX3_readAny_13 : decode cX3_readAny 13 = .ok (.aload_n 0, 1) := by decide +kernel
theorem dX3_readAny_14 : decode cX3_readAny 14 = .ok (.bipush 124, 2) := by decide +kernel
theorem dX3_readAny_16 : decode cX3_readAny 16 = .ok (.invokevirtual 57, 3) := by decide +kernel
theorem dX3_readAny_19 : decode cX3_readAny 19 = .ok (.ifCond .eq 21, 3) := by decide +kernel
theorem dX3_readAny_22 : decode cX3_readAny 22 = .ok (.aload_n 0, 1) := by decide +kernel
theorem dX3_readAny_23 : decode cX3_readAny 23 = .ok (.iload_n 1, 1) := by decide +kernel
theorem dX3_readAny_24 : decode cX3_readAny 24 = .ok (.invokevirtual 54, 3) := by decide +kernel
theorem dX3_readAny_27 : decode cX3_readAny 27 = .ok (.aload_n 0, 1) := by decide +kernel
theorem dX3_readAny_28 : decode cX3_readAny 28 = .ok (.iconst 5, 1) := by decide +kernel
theorem dX3_readAny_29 : decode cX3_readAny 29 = .ok (.iconst 0, 1) := by decide +kernel
theorem dX3_readAny_30 : decode cX3_readAny 30 = .ok (.iconst 0, 1) := by decide +kernel
theorem dX3_readAny_31 : decode cX3_readAny 31 = .ok (.invokevirtual 61, 3) := by decide +kernel
theorem dX3_readAny_34 : decode cX3_readAny 34 = .ok (.iinc 2 1, 3) := by decide +kernel
theorem dX3_readAny_37 : decode cX3_readAny 37 = .ok (.goto (-30), 3) := by decide +kernel
theorem dX3_readAny_40 : decode cX3_readAny 40 = .ok (.return_, 1) := by decide +kernel
theorem dX3_readAll_0 : decode cX3_readAll 0 = .ok (.aload_n 0, 1) := by decide +kernel
theorem dX3_readAll_1 : decode cX3_readAll 1 = .ok (.iload_n 1, 1) := by decide +kernel
theorem dX3_readAll_2 : decode cX3_readAll 2 = .ok (.invokevirtual 65, 3) := by decide +kernel
theorem dX3_readAll_5 : decode cX3_readAll 5 = .ok (.iconst 0, 1) := by decide +kernel
theorem dX3_readAll_6 : decode cX3_readAll 6 = .ok (.istore_n 2, 1) := by decide +kernel
theorem dX3_readAll_7 : decode cX3_readAll 7 = .ok (.iload_n 2, 1) := by decide +kernel
theorem dX3_readAll_8 : decode cX3_readAll 8 = .ok (.bipush 100, 2) := by decide +kernel
theorem dX3_readAll_10 : decode cX3_readAll 10 = .ok (.if_icmp .ge 30, 3) := by decide +kernel
theorem dX3_readAll_13 : decode cX3_readAll 13 = .ok (.aload_n 0, 1) := by decide +kernel
theorem dX3_readAll_14 : decode cX3_readAll 14 = .ok (.bipush 38, 2) := by decide +kernel
theorem dX3_readAll_16 : decode cX3_readAll 16 = .ok (.invokevirtual 57, 3) := by decide +kernel
theorem dX3_readAll_19 : decode cX3_readAll 19 = .ok (.ifCond .eq 21, 3) := by decide +kernel
theorem dX3_readAll_22 : decode cX3_readAll 22 = .ok (.aload_n 0, 1) := by decide +kernel
theorem dX3_readAll_23 : decode cX3_readAll 23 = .ok (.iload_n 1, 1) := by decide +kernel
theorem dX3_readAll_24 : decode cX3_readAll 24 = .ok (.invokevirtual 65, 3) := by decide +kernel
theorem dX3_readAll_27 : decode cX3_readAll 27 = .ok (.aload_n 0, 1) := by decide +kernel
theorem dX3_readAll_28 : decode cX3_readAll 28 = .ok (.iconst 4, 1) := by decide +kernel
theorem dX3_readAll_29 : decode cX3_readAll 29 = .ok (.iconst 0, 1) := by decide +kernel
theorem dX3_readAll_30 : decode cX3_readAll 30 = .ok (.iconst 0, 1) := by decide +kernel
theorem dX3_readAll_31 : decode cX3_readAll 31 = .ok (.invokevirtual 61, 3) := by decide +kernel
theorem dX3_readAll_34 : decode cX3_readAll 34 = .ok (.iinc 2 1, 3) := by decide +kernel
theorem dX3_readAll_37 : decode cX3_readAll 37 = .ok (.goto (-30), 3) := by decide +kernel
theorem dX3_readAll_40 : decode cX3_readAll 40 = .ok (.return_, 1) := by decide +kernel
theorem dX3_readUnit_0 : decode cX3_readUnit 0 = .ok (.iload_n 1, 1) := by decide +kernel
theorem dX3_readUnit_1 : decode cX3_readUnit 1 = .ok (.bipush 20, 2) := by decide +kernel
theorem dX3_readUnit_3 : decode cX3_readUnit 3 = .ok (.if_icmp .ge 29, 3) := by decide +kernel
theorem dX3_readUnit_6 : decode cX3_readUnit 6 = .ok (.aload_n 0, 1) := by decide +kernel
theorem dX3_readUnit_7 : decode cX3_readUnit 7 = .ok (.bipush 33, 2) := by decide +kernel
theorem dX3_readUnit_9 : decode cX3_readUnit 9 = .ok (.invokevirtual 57, 3) := by decide +kernel
theorem dX3_readUnit_12 : decode cX3_readUnit 12 = .ok (.ifCond .eq 20, 3) := by decide +kernel
theorem dX3_readUnit_15 : decode cX3_readUnit 15 = .ok (.aload_n 0, 1) := by decide +kernel
theorem dX3_readUnit_16 : decode cX3_readUnit 16 = .ok (.iload_n 1, 1) := by decide +kernel
theorem dX3_readUnit_17 : decode cX3_readUnit 17 = .ok (.iconst 1, 1) := by decide +kernel
theorem dX3_readUnit_18 : decode cX3_readUnit 18 = .ok (.iadd, 1) := by decide +kernel
theorem dX3_readUnit_19 : decode cX3_readUnit 19 = .ok (.invokevirtual 65, 3) := by decide +kernel
theorem dX3_readUnit_22 : decode cX3_readUnit 22 = .ok (.aload_n 0, 1) := by decide +kernel
theorem dX3_readUnit_23 : decode cX3_readUnit 23 = .ok (.iconst 3, 1) := by decide +kernel
theorem dX3_readUnit_24 : decode cX3_readUnit 24 = .ok (.iconst 0, 1) := by decide +kernel
theorem dX3_readUnit_25 : decode cX3_readUnit 25 = .ok (.iconst 0, 1) := by decide +kernel
theorem dX3_readUnit_26 : decode cX3_readUnit 26 = .ok (.invokevirtual 61, 3) := by decide +kernel
theorem dX3_readUnit_29 : decode cX3_readUnit 29 = .ok (.goto 38, 3) := by decide +kernel
theorem dX3_readUnit_32 : decode cX3_readUnit 32 = .ok (.iload_n 1, 1) := by decide +kernel
theorem dX3_readUnit_33 : decode cX3_readUnit 33 = .ok (.bipush 20, 2) := by decide +kernel
theorem dX3_readUnit_35 : decode cX3_readUnit 35 = .ok (.if_icmp .ge 28, 3) := by decide +kernel
theorem dX3_readUnit_38 : decode cX3_readUnit 38 = .ok (.aload_n 0, 1) := by decide +kernel
theorem dX3_readUnit_39 : decode cX3_readUnit 39 = .ok (.bipush 40, 2) := by decide +kernel
theorem dX3_readUnit_41 : decode cX3_readUnit 41 = .ok (.invokevirtual 57, 3) := by decide +kernel
theorem dX3_readUnit_44 : decode cX3_readUnit 44 = .ok (.ifCond .eq 19, 3) := by decide +kernel
theorem dX3_readUnit_47 : decode cX3_readUnit 47 = .ok (.aload_n 0, 1) := by decide +kernel
theorem dX3_readUnit_48 : decode cX3_readUnit 48 = .ok (.iload_n 1, 1) := by decide +kernel
theorem dX3_readUnit_49 : decode cX3_readUnit 49 = .ok (.iconst 1, 1) := by decide +kernel
theorem dX3_readUnit_50 : decode cX3_readUnit 50 = .ok (.iadd, 1) := by decide +kernel
theorem dX3_readUnit_51 : decode cX3_readUnit 51 = .ok (.invokevirtual 46, 3) := by decide +kernel
theorem dX3_readUnit_54 : decode cX3_readUnit 54 = .ok (.aload_n 0, 1) := by decide +kernel
theorem dX3_readUnit_55 : decode cX3_readUnit 55 = .ok (.bipush 41, 2) := by decide +kernel
theorem dX3_readUnit_57 : decode cX3_readUnit 57 = .ok (.invokevirtual 68, 3) := by decide +kernel
theorem dX3_readUnit_60 : decode cX3_readUnit 60 = .ok (.goto 7, 3) := by decide +kernel
theorem dX3_readUnit_63 : decode cX3_readUnit 63 = .ok (.aload_n 0, 1) := by decide +kernel
theorem dX3_readUnit_64 : decode cX3_readUnit 64 = .ok (.invokevirtual 72, 3) := by decide +kernel
theorem dX3_readUnit_67 : decode cX3_readUnit 67 = .ok (.return_, 1) := by decide +kernel
theorem dX3_readTest_0 : decode cX3_readTest 0 = .ok (.aload_n 0, 1) := by decide +kernel
theorem dX3_readTest_1 : decode cX3_readTest 1 = .ok (.bipush 77, 2) := by decide +kernel
theorem dX3_readTest_3 : decode cX3_readTest 3 = .ok (.invokevirtual 57, 3) := by decide +kernel
theorem dX3_readTest_6 : decode cX3_readTest 6 = .ok (.ifCond .eq 16, 3) := by decide +kernel
theorem dX3_readTest_9 : decode cX3_readTest 9 = .ok (.aload_n 0, 1) := by decide +kernel
theorem dX3_readTest_10 : decode cX3_readTest 10 = .ok (.iconst 0, 1) := by decide +kernel
theorem dX3_readTest_11 : decode cX3_readTest 11 = .ok (.aload_n 0, 1) := by decide +kernel
theorem dX3_readTest_12 : decode cX3_readTest 12 = .ok (.invokevirtual 75, 3) := by decide +kernel
theorem dX3_readTest_15 : decode cX3_readTest 15 = .ok (.iconst 0, 1) := by decide +kernel
theorem dX3_readTest_16 : decode cX3_readTest 16 = .ok (.invokevirtual 61, 3) := by decide +kernel
theorem dX3_readTest_19 : decode cX3_readTest 19 = .ok (.goto 52, 3) := by decide +kernel
theorem dX3_readTest_22 : decode cX3_readTest 22 = .ok (.aload_n 0, 1) := by decide +kernel
theorem dX3_readTest_23 : decode cX3_readTest 23 = .ok (.bipush 89, 2) := by decide +kernel
theorem dX3_readTest_25 : decode cX3_readTest 25 = .ok (.invokevirtual 57, 3) := by decide +kernel
theorem dX3_readTest_28 : decode cX3_readTest 28 = .ok (.ifCond .eq 27, 3) := by decide +kernel
theorem dX3_readTest_31 : decode cX3_readTest 31 = .ok (.aload_n 0, 1) := by decide +kernel
theorem dX3_readTest_32 : decode cX3_readTest 32 = .ok (.invokevirtual 75, 3) := by decide +kernel
theorem dX3_readTest_35 : decode cX3_readTest 35 = .ok (.istore_n 1, 1) := by decide +kernel
theorem dX3_readTest_36 : decode cX3_readTest 36 = .ok (.aload_n 0, 1) := by decide +kernel
theorem dX3_readTest_37 : decode cX3_readTest 37 = .ok (.bipush 45, 2) := by decide +kernel
theorem dX3_readTest_39 : decode cX3_readTest 39 = .ok (.invokevirtual 68, 3) := by decide +kernel
theorem dX3_readTest_42 : decode cX3_readTest 42 = .ok (.aload_n 0, 1) := by decide +kernel
theorem dX3_readTest_43 : decode cX3_readTest 43 = .ok (.iconst 1, 1) := by decide +kernel
theorem dX3_readTest_44 : decode cX3_readTest 44 = .ok (.iload_n 1, 1) := by decide +kernel
theorem dX3_readTest_45 : decode cX3_readTest 45 = .ok (.aload_n 0, 1) := by decide +kernel
theorem dX3_readTest_46 : decode cX3_readTest 46 = .ok (.invokevirtual 75, 3) := by decide +kernel
theorem dX3_readTest_49 : decode cX3_readTest 49 = .ok (.invokevirtual 61, 3) := by decide +kernel
theorem dX3_readTest_52 : decode cX3_readTest 52 = .ok (.goto 19, 3) := by decide +kernel
theorem dX3_readTest_55 : decode cX3_readTest 55 = .ok (.aload_n 0, 1) := by decide +kernel
theorem dX3_readTest_56 : decode cX3_readTest 56 = .ok (.bipush 75, 2) := by decide +kernel
theorem dX3_readTest_58 : decode cX3_readTest 58 = .ok (.invokevirtual 68, 3) := by decide +kernel
theorem dX3_readTest_61 : decode cX3_readTest 61 = .ok (.aload_n 0, 1) := by decide +kernel
theorem dX3_readTest_62 : decode cX3_readTest 62 = .ok (.iconst 2, 1) := by decide +kernel
theorem dX3_readTest_63 : decode cX3_readTest 63 = .ok (.aload_n 0, 1) := by decide +kernel
theorem dX3_readTest_64 : decode cX3_readTest 64 = .ok (.invokevirtual 78, 3) := by decide +kernel
theorem dX3_readTest_67 : decode cX3_readTest 67 = .ok (.iconst 0, 1) := by decide +kernel
theorem dX3_readTest_68 : decode cX3_readTest 68 = .ok (.invokevirtual 61, 3) := by decide +kernel
theorem dX3_readTest_71 : decode cX3_readTest 71 = .ok (.return_, 1) := by decide +kernel
theorem dX3_readNumber_0 : decode cX3_readNumber 0 = .ok (.aload_n 0, 1) := by decide +kernel
theorem dX3_readNumber_1 : decode cX3_readNumber 1 = .ok (.invokevirtual 50, 3) := by decide +kernel
theorem dX3_readNumber_4 : decode cX3_readNumber 4 = .ok (.istore_n 1, 1) := by decide +kernel
theorem dX3_readNumber_5 : decode cX3_readNumber 5 = .ok (.iload_n 1, 1) := by decide +kernel
theorem dX3_readNumber_6 : decode cX3_readNumber 6 = .ok (.invokestatic 81, 3) := by decide +kernel
theorem dX3_readNumber_9 : decode cX3_readNumber 9 = .ok (.ifCond .ne 10, 3) := by decide +kernel
theorem dX3_readNumber_12 : decode cX3_readNumber 12 = .ok (.aload_n 0, 1) := by decide +kernel
theorem dX3_readNumber_13 : decode cX3_readNumber 13 = .ok (.iconst 1, 1) := by decide +kernel
theorem dX3_readNumber_14 : decode cX3_readNumber 14 = .ok (.putfield 29, 3) := by decide +kernel
theorem dX3_readNumber_17 : decode cX3_readNumber 17 = .ok (.iconst 0, 1) := by decide +kernel
theorem dX3_readNumber_18 : decode cX3_readNumber 18 = .ok (.ireturn, 1) := by decide +kernel
theorem dX3_readNumber_19 : decode cX3_readNumber 19 = .ok (.iconst 0, 1) := by decide +kernel
theorem dX3_readNumber_20 : decode cX3_readNumber 20 = .ok (.istore_n 2, 1) := by decide +kernel
theorem dX3_readNumber_21 : decode cX3_readNumber 21 = .ok (.iconst 0, 1) := by decide +kernel
theorem dX3_readNumber_22 : decode cX3_readNumber 22 = .ok (.istore_n 3, 1) := by decide +kernel
theorem dX3_readNumber_23 : decode cX3_readNumber 23 = .ok (.iload_n 3, 1) := by decide +kernel
theorem dX3_readNumber_24 : decode cX3_readNumber 24 = .ok (.iconst 4, 1) := by decide +kernel
theorem dX3_readNumber_25 : decode cX3_readNumber 25 = .ok (.if_icmp .ge 41, 3) := by decide +kernel
theorem dX3_readNumber_28 : decode cX3_readNumber 28 = .ok (.iload_n 1, 1) := by decide +kernel
theorem dX3_readNumber_29 : decode cX3_readNumber 29 = .ok (.invokestatic 81, 3) := by decide +kernel
theorem dX3_readNumber_32 : decode cX3_readNumber 32 = .ok (.ifCond .eq 34, 3) := by decide +kernel
theorem dX3_readNumber_35 : decode cX3_readNumber 35 = .ok (.iload_n 2, 1) := by decide +kernel
theorem dX3_readNumber_36 : decode cX3_readNumber 36 = .ok (.bipush 10, 2) := by decide +kernel
theorem dX3_readNumber_38 : decode cX3_readNumber 38 = .ok (.imul, 1) := by decide +kernel
theorem dX3_readNumber_39 : decode cX3_readNumber 39 = .ok (.iload_n 1, 1) := by decide +kernel
theorem dX3_readNumber_40 : decode cX3_readNumber 40 = .ok (.iadd, 1) := by decide +kernel
theorem dX3_readNumber_41 : decode cX3_readNumber 41 = .ok (.bipush 48, 2) := by decide +kernel
theorem dX3_readNumber_43 : decode cX3_readNumber 43 = .ok (.isub, 1) := by decide +kernel
theorem dX3_readNumber_44 : decode cX3_readNumber 44 = .ok (.istore_n 2, 1) := by decide +kernel
theorem dX3_readNumber_45 : decode cX3_readNumber 45 = .ok (.aload_n 0, 1) := by decide +kernel
theorem dX3_readNumber_46 : decode cX3_readNumber 46 = .ok (.dup, 1) := by decide +kernel
theorem dX3_readNumber_47 : decode cX3_readNumber 47 = .ok (.getfield 23, 3) := by decide +kernel
theorem dX3_readNumber_50 : decode cX3_readNumber 50 = .ok (.iconst 1, 1) := by decide +kernel
theorem dX3_readNumber_51 : decode cX3_readNumber 51 = .ok (.iadd, 1) := by decide +kernel
theorem dX3_readNumber_52 : decode cX3_readNumber 52 = .ok (.putfield 23, 3) := by decide +kernel
theorem dX3_readNumber_55 : decode cX3_readNumber 55 = .ok (.aload_n 0, 1) := by decide +kernel
theorem dX3_readNumber_56 : decode cX3_readNumber 56 = .ok (.invokevirtual 85, 3) := by decide +kernel
theorem dX3_readNumber_59 : decode cX3_readNumber 59 = .ok (.istore_n 1, 1) := by decide +kernel
theorem dX3_readNumber_60 : decode cX3_readNumber 60 = .ok (.iinc 3 1, 3) := by decide +kernel
theorem dX3_readNumber_63 : decode cX3_readNumber 63 = .ok (.goto (-40), 3) := by decide +kernel
theorem dX3_readNumber_66 : decode cX3_readNumber 66 = .ok (.iload_n 2, 1) := by decide +kernel
theorem dX3_readNumber_67 : decode cX3_readNumber 67 = .ok (.ireturn, 1) := by decide +kernel
theorem dX3_readLetter_0 : decode cX3_readLetter 0 = .ok (.aload_n 0, 1) := by decide +kernel
theorem dX3_readLetter_1 : decode cX3_readLetter 1 = .ok (.invokevirtual 50, 3) := by decide +kernel
theorem dX3_readLetter_4 : decode cX3_readLetter 4 = .ok (.istore_n 1, 1) := by decide +kernel
theorem dX3_readLetter_5 : decode cX3_readLetter 5 = .ok (.iload_n 1, 1) := by decide +kernel
theorem dX3_readLetter_6 : decode cX3_readLetter 6 = .ok (.bipush 97, 2) := by decide +kernel
theorem dX3_readLetter_8 : decode cX3_readLetter 8 = .ok (.if_icmp .lt 9, 3) := by decide +kernel
theorem dX3_readLetter_11 : decode cX3_readLetter 11 = .ok (.iload_n 1, 1) := by decide +kernel
theorem dX3_readLetter_12 : decode cX3_readLetter 12 = .ok (.bipush 104, 2) := by decide +kernel
theorem dX3_readLetter_14 : decode cX3_readLetter 14 = .ok (.if_icmp .le 10, 3) := by decide +kernel
theorem dX3_readLetter_17 : decode cX3_readLetter 17 = .ok (.aload_n 0, 1) := by decide +kernel
theorem dX3_readLetter_18 : decode cX3_readLetter 18 = .ok (.iconst 1, 1) := by decide +kernel
theorem dX3_readLetter_19 : decode cX3_readLetter 19 = .ok (.putfield 29, 3) := by decide +kernel
theorem dX3_readLetter_22 : decode cX3_readLetter 22 = .ok (.iconst 0, 1) := by decide +kernel
theorem dX3_readLetter_23 : decode cX3_readLetter 23 = .ok (.ireturn, 1) := by decide +kernel
theorem dX3_readLetter_24 : decode cX3_readLetter 24 = .ok (.aload_n 0, 1) := by decide +kernel
theorem dX3_readLetter_25 : decode cX3_readLetter 25 = .ok (.dup, 1) := by decide +kernel
theorem dX3_readLetter_26 : decode cX3_readLetter 26 = .ok (.getfield 23, 3) := by decide +kernel
theorem dX3_readLetter_29 : decode cX3_readLetter 29 = .ok (.iconst 1, 1) := by decide +kernel
theorem dX3_readLetter_30 : decode cX3_readLetter 30 = .ok (.iadd, 1) := by decide +kernel
theorem dX3_readLetter_31 : decode cX3_readLetter 31 = .ok (.putfield 23, 3) := by decide +kernel
theorem dX3_readLetter_34 : decode cX3_readLetter 34 = .ok (.iload_n 1, 1) := by decide +kernel
theorem dX3_readLetter_35 : decode cX3_readLetter 35 = .ok (.bipush 97, 2) := by decide +kernel
theorem dX3_readLetter_37 : decode cX3_readLetter 37 = .ok (.isub, 1) := by decide +kernel
theorem dX3_readLetter_38 : decode cX3_readLetter 38 = .ok (.ireturn, 1) := by decide +kernel
theorem dX3_isDigit_0 : decode cX3_isDigit 0 = .ok (.iload_n 0, 1) := by decide +kernel
theorem dX3_isDigit_1 : decode cX3_isDigit 1 = .ok (.bipush 48, 2) := by decide +kernel
theorem dX3_isDigit_3 : decode cX3_isDigit 3 = .ok (.if_icmp .lt 13, 3) := by decide +kernel
theorem dX3_isDigit_6 : decode cX3_isDigit 6 = .ok (.iload_n 0, 1) := by decide +kernel
theorem dX3_isDigit_7 : decode cX3_isDigit 7 = .ok (.bipush 57, 2) := by decide +kernel
theorem dX3_isDigit_9 : decode cX3_isDigit 9 = .ok (.if_icmp .gt 7, 3) := by decide +kernel
theorem dX3_isDigit_12 : decode cX3_isDigit 12 = .ok (.iconst 1, 1) := by decide +kernel
theorem dX3_isDigit_13 : decode cX3_isDigit 13 = .ok (.goto 4, 3) := by decide +kernel
theorem dX3_isDigit_16 : decode cX3_isDigit 16 = .ok (.iconst 0, 1) := by decide +kernel
theorem dX3_isDigit_17 : decode cX3_isDigit 17 = .ok (.ireturn, 1) := by decide +kernel
theorem dX3_comes_0 : decode cX3_comes 0 = .ok (.aload_n 0, 1) := by decide +kernel
theorem dX3_comes_1 : decode cX3_comes 1 = .ok (.invokevirtual 50, 3) := by decide +kernel
theorem dX3_comes_4 : decode cX3_comes 4 = .ok (.iload_n 1, 1) := by decide +kernel
theorem dX3_comes_5 : decode cX3_comes 5 = .ok (.if_icmp .eq 5, 3) := by decide +kernel
theorem dX3_comes_8 : decode cX3_comes 8 = .ok (.iconst 0, 1) := by decide +kernel
theorem dX3_comes_9 : decode cX3_comes 9 = .ok (.ireturn, 1) := by decide +kernel
theorem dX3_comes_10 : decode cX3_comes 10 = .ok (.aload_n 0, 1) := by decide +kernel
theorem dX3_comes_11 : decode cX3_comes 11 = .ok (.dup, 1) := by decide +kernel
theorem dX3_comes_12 : decode cX3_comes 12 = .ok (.getfield 23, 3) := by decide +kernel
theorem dX3_comes_15 : decode cX3_comes 15 = .ok (.iconst 1, 1) := by decide +kernel
theorem dX3_comes_16 : decode cX3_comes 16 = .ok (.iadd, 1) := by decide +kernel
theorem dX3_comes_17 : decode cX3_comes 17 = .ok (.putfield 23, 3) := by decide +kernel
theorem dX3_comes_20 : decode cX3_comes 20 = .ok (.iconst 1, 1) := by decide +kernel
theorem dX3_comes_21 : decode cX3_comes 21 = .ok (.ireturn, 1) := by decide +kernel
theorem dX3_must_0 : decode cX3_must 0 = .ok (.aload_n 0, 1) := by decide +kernel
theorem dX3_must_1 : decode cX3_must 1 = .ok (.invokevirtual 50, 3) := by decide +kernel
theorem dX3_must_4 : decode cX3_must 4 = .ok (.iload_n 1, 1) := by decide +kernel
theorem dX3_must_5 : decode cX3_must 5 = .ok (.if_icmp .ne 16, 3) := by decide +kernel
theorem dX3_must_8 : decode cX3_must 8 = .ok (.aload_n 0, 1) := by decide +kernel
theorem dX3_must_9 : decode cX3_must 9 = .ok (.dup, 1) := by decide +kernel
theorem dX3_must_10 : decode cX3_must 10 = .ok (.getfield 23, 3) := by decide +kernel
theorem dX3_must_13 : decode cX3_must 13 = .ok (.iconst 1, 1) := by decide +kernel
theorem dX3_must_14 : decode cX3_must 14 = .ok (.iadd, 1) := by decide +kernel
theorem dX3_must_15 : decode cX3_must 15 = .ok (.putfield 23, 3) := by decide +kernel
theorem dX3_must_18 : decode cX3_must 18 = .ok (.goto 8, 3) := by decide +kernel
theorem dX3_must_21 : decode cX3_must 21 = .ok (.aload_n 0, 1) := by decide +kernel
theorem dX3_must_22 : decode cX3_must 22 = .ok (.iconst 1, 1) := by decide +kernel
theorem dX3_must_23 : decode cX3_must 23 = .ok (.putfield 29, 3) := by decide +kernel
theorem dX3_must_26 : decode cX3_must 26 = .ok (.return_, 1) := by decide +kernel
theorem dX3_nextByte_0 : decode cX3_nextByte 0 = .ok (.aload_n 0, 1) := by decide +kernel
theorem dX3_nextByte_1 : decode cX3_nextByte 1 = .ok (.getfield 29, 3) := by decide +kernel
theorem dX3_nextByte_4 : decode cX3_nextByte 4 = .ok (.ifCond .ne 36, 3) := by decide +kernel
theorem dX3_nextByte_7 : decode cX3_nextByte 7 = .ok (.aload_n 0, 1) := by decide +kernel
theorem dX3_nextByte_8 : decode cX3_nextByte 8 = .ok (.getfield 23, 3) := by decide +kernel
theorem dX3_nextByte_11 : decode cX3_nextByte 11 = .ok (.aload_n 0, 1) := by decide +kernel
theorem dX3_nextByte_12 : decode cX3_nextByte 12 = .ok (.getfield 19, 3) := by decide +kernel
theorem dX3_nextByte_15 : decode cX3_nextByte 15 = .ok (.if_icmp .ge 25, 3) := by decide +kernel
theorem dX3_nextByte_18 : decode cX3_nextByte 18 = .ok (.aload_n 0, 1) := by decide +kernel
theorem dX3_nextByte_19 : decode cX3_nextByte 19 = .ok (.invokevirtual 85, 3) := by decide +kernel
theorem dX3_nextByte_22 : decode cX3_nextByte 22 = .ok (.bipush 32, 2) := by decide +kernel
theorem dX3_nextByte_24 : decode cX3_nextByte 24 = .ok (.if_icmp .ne 16, 3) := by decide +kernel
theorem dX3_nextByte_27 : decode cX3_nextByte 27 = .ok (.aload_n 0, 1) := by decide +kernel
theorem dX3_nextByte_28 : decode cX3_nextByte 28 = .ok (.dup, 1) := by decide +kernel
theorem dX3_nextByte_29 : decode cX3_nextByte 29 = .ok (.getfield 23, 3) := by decide +kernel
theorem dX3_nextByte_32 : decode cX3_nextByte 32 = .ok (.iconst 1, 1) := by decide +kernel
theorem dX3_nextByte_33 : decode cX3_nextByte 33 = .ok (.iadd, 1) := by decide +kernel
theorem dX3_nextByte_34 : decode cX3_nextByte 34 = .ok (.putfield 23, 3) := by decide +kernel
theorem dX3_nextByte_37 : decode cX3_nextByte 37 = .ok (.goto (-37), 3) := by decide +kernel
theorem dX3_nextByte_40 : decode cX3_nextByte 40 = .ok (.aload_n 0, 1) := by decide +kernel
theorem dX3_nextByte_41 : decode cX3_nextByte 41 = .ok (.invokevirtual 85, 3) := by decide +kernel
theorem dX3_nextByte_44 : decode cX3_nextByte 44 = .ok (.ireturn, 1) := by decide +kernel
theorem dX3_byteHere_0 : decode cX3_byteHere 0 = .ok (.aload_n 0, 1) := by decide +kernel
theorem dX3_byteHere_1 : decode cX3_byteHere 1 = .ok (.getfield 29, 3) := by decide +kernel
theorem dX3_byteHere_4 : decode cX3_byteHere 4 = .ok (.ifCond .ne 49, 3) := by decide +kernel
theorem dX3_byteHere_7 : decode cX3_byteHere 7 = .ok (.aload_n 0, 1) := by decide +kernel
theorem dX3_byteHere_8 : decode cX3_byteHere 8 = .ok (.getfield 23, 3) := by decide +kernel
theorem dX3_byteHere_11 : decode cX3_byteHere 11 = .ok (.ifCond .lt 42, 3) := by decide +kernel
theorem dX3_byteHere_14 : decode cX3_byteHere 14 = .ok (.aload_n 0, 1) := by decide +kernel
theorem dX3_byteHere_15 : decode cX3_byteHere 15 = .ok (.getfield 23, 3) := by decide +kernel
theorem dX3_byteHere_18 : decode cX3_byteHere 18 = .ok (.aload_n 0, 1) := by decide +kernel
theorem dX3_byteHere_19 : decode cX3_byteHere 19 = .ok (.getfield 19, 3) := by decide +kernel
theorem dX3_byteHere_22 : decode cX3_byteHere 22 = .ok (.if_icmp .ge 31, 3) := by decide +kernel
theorem dX3_byteHere_25 : decode cX3_byteHere 25 = .ok (.aload_n 0, 1) := by decide +kernel
theorem dX3_byteHere_26 : decode cX3_byteHere 26 = .ok (.getfield 23, 3) := by decide +kernel
theorem dX3_byteHere_29 : decode cX3_byteHere 29 = .ok (.aload_n 0, 1) := by decide +kernel
theorem dX3_byteHere_30 : decode cX3_byteHere 30 = .ok (.getfield 11, 3) := by decide +kernel
theorem dX3_byteHere_33 : decode cX3_byteHere 33 = .ok (.arraylength, 1) := by decide +kernel
theorem dX3_byteHere_34 : decode cX3_byteHere 34 = .ok (.if_icmp .ge 19, 3) := by decide +kernel
theorem dX3_byteHere_37 : decode cX3_byteHere 37 = .ok (.aload_n 0, 1) := by decide +kernel
theorem dX3_byteHere_38 : decode cX3_byteHere 38 = .ok (.getfield 11, 3) := by decide +kernel
theorem dX3_byteHere_41 : decode cX3_byteHere 41 = .ok (.aload_n 0, 1) := by decide +kernel
theorem dX3_byteHere_42 : decode cX3_byteHere 42 = .ok (.getfield 23, 3) := by decide +kernel
theorem dX3_byteHere_45 : decode cX3_byteHere 45 = .ok (.baload, 1) := by decide +kernel
theorem dX3_byteHere_46 : decode cX3_byteHere 46 = .ok (.sipush 255, 3) := by decide +kernel
theorem dX3_byteHere_49 : decode cX3_byteHere 49 = .ok (.iand, 1) := by decide +kernel
theorem dX3_byteHere_50 : decode cX3_byteHere 50 = .ok (.goto 4, 3) := by decide +kernel
theorem dX3_byteHere_53 : decode cX3_byteHere 53 = .ok (.iconst (-1), 1) := by decide +kernel
theorem dX3_byteHere_54 : decode cX3_byteHere 54 = .ok (.ireturn, 1) := by decide +kernel
theorem dX3_add_0 : decode cX3_add 0 = .ok (.aload_n 0, 1) := by decide +kernel
theorem dX3_add_1 : decode cX3_add 1 = .ok (.getfield 29, 3) := by decide +kernel
theorem dX3_add_4 : decode cX3_add 4 = .ok (.ifCond .ne 52, 3) := by decide +kernel
theorem dX3_add_7 : decode cX3_add 7 = .ok (.aload_n 0, 1) := by decide +kernel
theorem dX3_add_8 : decode cX3_add 8 = .ok (.getfield 26, 3) := by decide +kernel
theorem dX3_add_11 : decode cX3_add 11 = .ok (.ifCond .lt 45, 3) := by decide +kernel
theorem dX3_add_14 : decode cX3_add 14 = .ok (.aload_n 0, 1) := by decide +kernel
theorem dX3_add_15 : decode cX3_add 15 = .ok (.getfield 26, 3) := by decide +kernel
theorem dX3_add_18 : decode cX3_add 18 = .ok (.aload_n 0, 1) := by decide +kernel
theorem dX3_add_19 : decode cX3_add 19 = .ok (.getfield 15, 3) := by decide +kernel
theorem dX3_add_22 : decode cX3_add 22 = .ok (.arraylength, 1) := by decide +kernel
theorem dX3_add_23 : decode cX3_add 23 = .ok (.if_icmp .ge 33, 3) := by decide +kernel
theorem dX3_add_26 : decode cX3_add 26 = .ok (.aload_n 0, 1) := by decide +kernel
theorem dX3_add_27 : decode cX3_add 27 = .ok (.getfield 15, 3) := by decide +kernel
theorem dX3_add_30 : decode cX3_add 30 = .ok (.aload_n 0, 1) := by decide +kernel
theorem dX3_add_31 : decode cX3_add 31 = .ok (.getfield 26, 3) := by decide +kernel
theorem dX3_add_34 : decode cX3_add 34 = .ok (.iload_n 1, 1) := by decide +kernel
theorem dX3_add_35 : decode cX3_add 35 = .ok (.bipush 28, 2) := by decide +kernel
theorem dX3_add_37 : decode cX3_add 37 = .ok (.ishl, 1) := by decide +kernel
theorem dX3_add_38 : decode cX3_add 38 = .ok (.iload_n 2, 1) := by decide +kernel
theorem dX3_add_39 : decode cX3_add 39 = .ok (.bipush 14, 2) := by decide +kernel
theorem dX3_add_41 : decode cX3_add 41 = .ok (.ishl, 1) := by decide +kernel
theorem dX3_add_42 : decode cX3_add 42 = .ok (.ior, 1) := by decide +kernel
theorem dX3_add_43 : decode cX3_add 43 = .ok (.iload_n 3, 1) := by decide +kernel
theorem dX3_add_44 : decode cX3_add 44 = .ok (.ior, 1) := by decide +kernel
theorem dX3_add_45 : decode cX3_add 45 = .ok (.iastore, 1) := by decide +kernel
theorem dX3_add_46 : decode cX3_add 46 = .ok (.aload_n 0, 1) := by decide +kernel
theorem dX3_add_47 : decode cX3_add 47 = .ok (.dup, 1) := by decide +kernel
theorem dX3_add_48 : decode cX3_add 48 = .ok (.getfield 26, 3) := by decide +kernel
theorem dX3_add_51 : decode cX3_add 51 = .ok (.iconst 1, 1) := by decide +kernel
theorem dX3_add_52 : decode cX3_add 52 = .ok (.iadd, 1) := by decide +kernel
theorem dX3_add_53 : decode cX3_add 53 = .ok (.putfield 26, 3) := by decide +kernel
theorem dX3_add_56 : decode cX3_add 56 = .ok (.return_, 1) := by decide +kernel
theorem dX4_init_0 : decode cX4_init 0 = .ok (.aload_n 0, 1) := by decide +kernel
theorem dX4_init_1 : decode cX4_init 1 = .ok (.invokespecial 3, 3) := by decide +kernel
theorem dX4_init_4 : decode cX4_init 4 = .ok (.aload_n 0, 1) := by decide +kernel
theorem dX4_init_5 : decode cX4_init 5 = .ok (.bipush 100, 2) := by decide +kernel
theorem dX4_init_7 : decode cX4_init 7 = .ok (.newarray .byte, 2) := by decide +kernel
theorem dX4_init_9 : decode cX4_init 9 = .ok (.putfield 11, 3) := by decide +kernel
theorem dX4_init_12 : decode cX4_init 12 = .ok (.aload_n 0, 1) := by decide +kernel
theorem dX4_init_13 : decode cX4_init 13 = .ok (.new 15, 3) := by decide +kernel
theorem dX4_init_16 : decode cX4_init 16 = .ok (.dup, 1) := by decide +kernel
theorem dX4_init_17 : decode cX4_init 17 = .ok (.invokespecial 17, 3) := by decide +kernel
theorem dX4_init_20 : decode cX4_init 20 = .ok (.putfield 18, 3) := by decide +kernel
theorem dX4_init_23 : decode cX4_init 23 = .ok (.aload_n 0, 1) := by decide +kernel
theorem dX4_init_24 : decode cX4_init 24 = .ok (.sipush 3000, 3) := by decide +kernel
theorem dX4_init_27 : decode cX4_init 27 = .ok (.newarray .int, 2) := by decide +kernel
theorem dX4_init_29 : decode cX4_init 29 = .ok (.putfield 22, 3) := by decide +kernel
theorem dX4_init_32 : decode cX4_init 32 = .ok (.aload_n 0, 1) := by decide +kernel
theorem dX4_init_33 : decode cX4_init 33 = .ok (.bipush 30, 2) := by decide +kernel
theorem dX4_init_35 : decode cX4_init 35 = .ok (.newarray .int, 2) := by decide +kernel
theorem dX4_init_37 : decode cX4_init 37 = .ok (.putfield 26, 3) := by decide +kernel
theorem dX4_init_40 : decode cX4_init 40 = .ok (.aload_n 0, 1) := by decide +kernel
theorem dX4_init_41 : decode cX4_init 41 = .ok (.iconst 0, 1) := by decide +kernel
theorem dX4_init_42 : decode cX4_init 42 = .ok (.putfield 29, 3) := by decide +kernel
theorem dX4_init_45 : decode cX4_init 45 = .ok (.aload_n 0, 1) := by decide +kernel
theorem dX4_init_46 : decode cX4_init 46 = .ok (.iconst 0, 1) := by decide +kernel
theorem dX4_init_47 : decode cX4_init 47 = .ok (.putfield 33, 3) := by decide +kernel
theorem dX4_init_50 : decode cX4_init 50 = .ok (.return_, 1) := by decide +kernel
theorem dX4_made_0 : decode cX4_made 0 = .ok (.aload_n 0, 1) := by decide +kernel
theorem dX4_made_1 : decode cX4_made 1 = .ok (.getfield 29, 3) := by decide +kernel
theorem dX4_made_4 : decode cX4_made 4 = .ok (.ireturn, 1) := by decide +kernel
theorem dX4_fed_0 : decode cX4_fed 0 = .ok (.aload_n 0, 1) := by decide +kernel
theorem dX4_fed_1 : decode cX4_fed 1 = .ok (.getfield 33, 3) := by decide +kernel
theorem dX4_fed_4 : decode cX4_fed 4 = .ok (.ireturn, 1) := by decide +kernel
theorem dX4_hasRoomToFeed_0 : decode cX4_hasRoomToFeed 0 = .ok (.aload_n 0, 1) := by decide +kernel
theorem dX4_hasRoomToFeed_1 : decode cX4_hasRoomToFeed 1 = .ok (.getfield 33, 3) := by decide +kernel
theorem dX4_hasRoomToFeed_4 : decode cX4_hasRoomToFeed 4 = .ok (.bipush 20, 2) := by decide +kernel
theorem dX4_hasRoomToFeed_6 : decode cX4_hasRoomToFeed 6 = .ok (.iadd, 1) := by decide +kernel
theorem dX4_hasRoomToFeed_7 : decode cX4_hasRoomToFeed 7 = .ok (.bipush 100, 2) := by decide +kernel
theorem dX4_hasRoomToFeed_9 : decode cX4_hasRoomToFeed 9 = .ok (.if_icmp .gt 7, 3) := by decide +kernel
theorem dX4_hasRoomToFeed_12 : decode cX4_hasRoomToFeed 12 = .ok (.iconst 1, 1) := by decide +kernel
theorem dX4_hasRoomToFeed_13 : decode cX4_hasRoomToFeed 13 = .ok (.goto 4, 3) := by decide +kernel
theorem dX4_hasRoomToFeed_16 : decode cX4_hasRoomToFeed 16 = .ok (.iconst 0, 1) := by decide +kernel
theorem dX4_hasRoomToFeed_17 : decode cX4_hasRoomToFeed 17 = .ok (.ireturn, 1) := by decide +kernel
theorem dX4_append_0 : decode cX4_append 0 = .ok (.bipush 24, 2) := by decide +kernel
theorem dX4_append_2 : decode cX4_append 2 = .ok (.istore_n 2, 1) := by decide +kernel
theorem dX4_append_3 : decode cX4_append 3 = .ok (.iload_n 2, 1) := by decide +kernel
theorem dX4_append_4 : decode cX4_append 4 = .ok (.ifCond .lt 51, 3) := by decide +kernel
theorem dX4_append_7 : decode cX4_append 7 = .ok (.aload_n 0, 1) := by decide +kernel
theorem dX4_append_8 : decode cX4_append 8 = .ok (.getfield 33, 3) := by decide +kernel
theorem dX4_append_11 : decode cX4_append 11 = .ok (.ifCond .lt 38, 3) := by decide +kernel
theorem dX4_append_14 : decode cX4_append 14 = .ok (.aload_n 0, 1) := by decide +kernel
theorem dX4_append_15 : decode cX4_append 15 = .ok (.getfield 33, 3) := by decide +kernel
theorem dX4_append_18 : decode cX4_append 18 = .ok (.aload_n 0, 1) := by decide +kernel
theorem dX4_append_19 : decode cX4_append 19 = .ok (.getfield 11, 3) := by decide +kernel
theorem dX4_append_22 : decode cX4_append 22 = .ok (.arraylength, 1) := by decide +kernel
theorem dX4_append_23 : decode cX4_append 23 = .ok (.if_icmp .ge 26, 3) := by decide +kernel
theorem dX4_append_26 : decode cX4_append 26 = .ok (.aload_n 0, 1) := by decide +kernel
theorem dX4_append_27 : decode cX4_append 27 = .ok (.getfield 11, 3) := by decide +kernel
theorem dX4_append_30 : decode cX4_append 30 = .ok (.aload_n 0, 1) := by decide +kernel
theorem dX4_append_31 : decode cX4_append 31 = .ok (.getfield 33, 3) := by decide +kernel
theorem dX4_append_34 : decode cX4_append 34 = .ok (.iload_n 1, 1) := by decide +kernel
theorem dX4_append_35 : decode cX4_append 35 = .ok (.iload_n 2, 1) := by decide +kernel
theorem dX4_append_36 : decode cX4_append 36 = .ok (.ishr, 1) := by decide +kernel
theorem dX4_append_37 : decode cX4_append 37 = .ok (.i2b, 1) := by decide +kernel
theorem dX4_append_38 : decode cX4_append 38 = .ok (.bastore, 1) := by decide +kernel
theorem dX4_append_39 : decode cX4_append 39 = .ok (.aload_n 0, 1) := by decide +kernel
theorem dX4_append_40 : decode cX4_append 40 = .ok (.dup, 1) := by decide +kernel
theorem dX4_append_41 : decode cX4_append 41 = .ok (.getfield 33, 3) := by decide +kernel
theorem dX4_append_44 : decode cX4_append 44 = .ok (.iconst 1, 1) := by decide +kernel
theorem dX4_append_45 : decode cX4_append 45 = .ok (.iadd, 1) := by decide +kernel
theorem dX4_append_46 : decode cX4_append 46 = .ok (.putfield 33, 3) := by decide +kernel
theorem dX4_append_49 : decode cX4_append 49 = .ok (.iinc 2 (-8), 3) := by decide +kernel
theorem dX4_append_52 : decode cX4_append 52 = .ok (.goto (-49), 3) := by decide +kernel
theorem dX4_append_55 : decode cX4_append 55 = .ok (.return_, 1) := by decide +kernel
theorem dX4_readTape_0 : decode cX4_readTape 0 = .ok (.aload_n 0, 1) := by decide +kernel
theorem dX4_readTape_1 : decode cX4_readTape 1 = .ok (.iconst 0, 1) := by decide +kernel
theorem dX4_readTape_2 : decode cX4_readTape 2 = .ok (.putfield 33, 3) := by decide +kernel
theorem dX4_readTape_5 : decode cX4_readTape 5 = .ok (.aload_n 0, 1) := by decide +kernel
theorem dX4_readTape_6 : decode cX4_readTape 6 = .ok (.getfield 18, 3) := by decide +kernel
theorem dX4_readTape_9 : decode cX4_readTape 9 = .ok (.aload_n 0, 1) := by decide +kernel
theorem dX4_readTape_10 : decode cX4_readTape 10 = .ok (.getfield 11, 3) := by decide +kernel
theorem dX4_readTape_13 : decode cX4_readTape 13 = .ok (.iload_n 1, 1) := by decide +kernel
theorem dX4_readTape_14 : decode cX4_readTape 14 = .ok (.invokevirtual 36, 3) := by decide +kernel
theorem dX4_readTape_17 : decode cX4_readTape 17 = .ok (.istore_n 2, 1) := by decide +kernel
theorem dX4_readTape_18 : decode cX4_readTape 18 = .ok (.iload_n 2, 1) := by decide +kernel
theorem dX4_readTape_19 : decode cX4_readTape 19 = .ok (.iconst (-1), 1) := by decide +kernel
theorem dX4_readTape_20 : decode cX4_readTape 20 = .ok (.if_icmp .eq 8, 3) := by decide +kernel
theorem dX4_readTape_23 : decode cX4_readTape 23 = .ok (.bipush (-2), 2) := by decide +kernel
theorem dX4_readTape_25 : decode cX4_readTape 25 = .ok (.iload_n 2, 1) := by decide +kernel
theorem dX4_readTape_26 : decode cX4_readTape 26 = .ok (.isub, 1) := by decide +kernel
theorem dX4_readTape_27 : decode cX4_readTape 27 = .ok (.ireturn, 1) := by decide +kernel
theorem dX4_readTape_28 : decode cX4_readTape 28 = .ok (.aload_n 0, 1) := by decide +kernel
theorem dX4_readTape_29 : decode cX4_readTape 29 = .ok (.getfield 29, 3) := by decide +kernel
theorem dX4_readTape_32 : decode cX4_readTape 32 = .ok (.bipush 30, 2) := by decide +kernel
theorem dX4_readTape_34 : decode cX4_readTape 34 = .ok (.if_icmp .lt 5, 3) := by decide +kernel
theorem dX4_readTape_37 : decode cX4_readTape 37 = .ok (.iconst (-1), 1) := by decide +kernel
theorem dX4_readTape_38 : decode cX4_readTape 38 = .ok (.ireturn, 1) := by decide +kernel
theorem dX4_readTape_39 : decode cX4_readTape 39 = .ok (.aload_n 0, 1) := by decide +kernel
theorem dX4_readTape_40 : decode cX4_readTape 40 = .ok (.invokevirtual 40, 3) := by decide +kernel
theorem dX4_readTape_43 : decode cX4_readTape 43 = .ok (.aload_n 0, 1) := by decide +kernel
theorem dX4_readTape_44 : decode cX4_readTape 44 = .ok (.getfield 29, 3) := by decide +kernel
theorem dX4_readTape_47 : decode cX4_readTape 47 = .ok (.iconst 1, 1) := by decide +kernel
theorem dX4_readTape_48 : decode cX4_readTape 48 = .ok (.isub, 1) := by decide +kernel
theorem dX4_readTape_49 : decode cX4_readTape 49 = .ok (.ireturn, 1) := by decide +kernel
theorem dX4_keep_0 : decode cX4_keep 0 = .ok (.iconst 0, 1) := by decide +kernel
theorem dX4_keep_1 : decode cX4_keep 1 = .ok (.istore_n 1, 1) := by decide +kernel
theorem dX4_keep_2 : decode cX4_keep 2 = .ok (.iload_n 1, 1) := by decide +kernel
theorem dX4_keep_3 : decode cX4_keep 3 = .ok (.aload_n 0, 1) := by decide +kernel
theorem dX4_keep_4 : decode cX4_keep 4 = .ok (.getfield 18, 3) := by decide +kernel
theorem dX4_keep_7 : decode cX4_keep 7 = .ok (.invokevirtual 43, 3) := by decide +kernel
theorem dX4_keep_10 : decode cX4_keep 10 = .ok (.if_icmp .ge 38, 3) := by decide +kernel
theorem dX4_keep_13 : decode cX4_keep 13 = .ok (.aload_n 0, 1) := by decide +kernel
theorem dX4_keep_14 : decode cX4_keep 14 = .ok (.aload_n 0, 1) := by decide +kernel
theorem dX4_keep_15 : decode cX4_keep 15 = .ok (.getfield 29, 3) := by decide +kernel
theorem dX4_keep_18 : decode cX4_keep 18 = .ok (.iload_n 1, 1) := by decide +kernel
theorem dX4_keep_19 : decode cX4_keep 19 = .ok (.invokevirtual 47, 3) := by decide +kernel
theorem dX4_keep_22 : decode cX4_keep 22 = .ok (.istore_n 2, 1) := by decide +kernel
theorem dX4_keep_23 : decode cX4_keep 23 = .ok (.iload_n 2, 1) := by decide +kernel
theorem dX4_keep_24 : decode cX4_keep 24 = .ok (.iconst (-1), 1) := by decide +kernel
theorem dX4_keep_25 : decode cX4_keep 25 = .ok (.if_icmp .eq 17, 3) := by decide +kernel
theorem dX4_keep_28 : decode cX4_keep 28 = .ok (.aload_n 0, 1) := by decide +kernel
theorem dX4_keep_29 : decode cX4_keep 29 = .ok (.getfield 22, 3) := by decide +kernel
theorem dX4_keep_32 : decode cX4_keep 32 = .ok (.iload_n 2, 1) := by decide +kernel
theorem dX4_keep_33 : decode cX4_keep 33 = .ok (.aload_n 0, 1) := by decide +kernel
theorem dX4_keep_34 : decode cX4_keep 34 = .ok (.getfield 18, 3) := by decide +kernel
theorem dX4_keep_37 : decode cX4_keep 37 = .ok (.iload_n 1, 1) := by decide +kernel
theorem dX4_keep_38 : decode cX4_keep 38 = .ok (.invokevirtual 51, 3) := by decide +kernel
theorem dX4_keep_41 : decode cX4_keep 41 = .ok (.iastore, 1) := by decide +kernel
theorem dX4_keep_42 : decode cX4_keep 42 = .ok (.iinc 1 1, 3) := by decide +kernel
theorem dX4_keep_45 : decode cX4_keep 45 = .ok (.goto (-43), 3) := by decide +kernel
theorem dX4_keep_48 : decode cX4_keep 48 = .ok (.aload_n 0, 1) := by decide +kernel
theorem dX4_keep_49 : decode cX4_keep 49 = .ok (.getfield 29, 3) := by decide +kernel
theorem dX4_keep_52 : decode cX4_keep 52 = .ok (.ifCond .lt 41, 3) := by decide +kernel
theorem dX4_keep_55 : decode cX4_keep 55 = .ok (.aload_n 0, 1) := by decide +kernel
theorem dX4_keep_56 : decode cX4_keep 56 = .ok (.getfield 29, 3) := by decide +kernel
theorem dX4_keep_59 : decode cX4_keep 59 = .ok (.aload_n 0, 1) := by decide +kernel
theorem dX4_keep_60 : decode cX4_keep 60 = .ok (.getfield 26, 3) := by decide +kernel
theorem dX4_keep_63 : decode cX4_keep 63 = .ok (.arraylength, 1) := by decide +kernel
theorem dX4_keep_64 : decode cX4_keep 64 = .ok (.if_icmp .ge 29, 3) := by decide +kernel
theorem dX4_keep_67 : decode cX4_keep 67 = .ok (.aload_n 0, 1) := by decide +kernel
theorem dX4_keep_68 : decode cX4_keep 68 = .ok (.getfield 26, 3) := by decide +kernel
theorem dX4_keep_71 : decode cX4_keep 71 = .ok (.aload_n 0, 1) := by decide +kernel
theorem dX4_keep_72 : decode cX4_keep 72 = .ok (.getfield 29, 3) := by decide +kernel
theorem dX4_keep_75 : decode cX4_keep 75 = .ok (.aload_n 0, 1) := by decide +kernel
theorem dX4_keep_76 : decode cX4_keep 76 = .ok (.getfield 18, 3) := by decide +kernel
theorem dX4_keep_79 : decode cX4_keep 79 = .ok (.invokevirtual 43, 3) := by decide +kernel
theorem dX4_keep_82 : decode cX4_keep 82 = .ok (.iastore, 1) := by decide +kernel
theorem dX4_keep_83 : decode cX4_keep 83 = .ok (.aload_n 0, 1) := by decide +kernel
theorem dX4_keep_84 : decode cX4_keep 84 = .ok (.dup, 1) := by decide +kernel
theorem dX4_keep_85 : decode cX4_keep 85 = .ok (.getfield 29, 3) := by decide +kernel
theorem dX4_keep_88 : decode cX4_keep 88 = .ok (.iconst 1, 1) := by decide +kernel
theorem dX4_keep_89 : decode cX4_keep 89 = .ok (.iadd, 1) := by decide +kernel
theorem dX4_keep_90 : decode cX4_keep 90 = .ok (.putfield 29, 3) := by decide +kernel
theorem dX4_keep_93 : decode cX4_keep 93 = .ok (.return_, 1) := by decide +kernel
theorem dX4_stepPlace_0 : decode cX4_stepPlace 0 = .ok (.iload_n 1, 1) := by decide +kernel
theorem dX4_stepPlace_1 : decode cX4_stepPlace 1 = .ok (.bipush 100, 2) := by decide +kernel
theorem dX4_stepPlace_3 : decode cX4_stepPlace 3 = .ok (.imul, 1) := by decide +kernel
theorem dX4_stepPlace_4 : decode cX4_stepPlace 4 = .ok (.iload_n 2, 1) := by decide +kernel
theorem dX4_stepPlace_5 : decode cX4_stepPlace 5 = .ok (.iadd, 1) := by decide +kernel
theorem dX4_stepPlace_6 : decode cX4_stepPlace 6 = .ok (.istore_n 3, 1) := by decide +kernel
theorem dX4_stepPlace_7 : decode cX4_stepPlace 7 = .ok (.iload_n 1, 1) := by decide +kernel
theorem dX4_stepPlace_8 : decode cX4_stepPlace 8 = .ok (.ifCond .lt 24, 3) := by decide +kernel
theorem dX4_stepPlace_11 : decode cX4_stepPlace 11 = .ok (.iload_n 2, 1) := by decide +kernel
theorem dX4_stepPlace_12 : decode cX4_stepPlace 12 = .ok (.ifCond .lt 20, 3) := by decide +kernel
theorem dX4_stepPlace_15 : decode cX4_stepPlace 15 = .ok (.iload_n 3, 1) := by decide +kernel
theorem dX4_stepPlace_16 : decode cX4_stepPlace 16 = .ok (.ifCond .lt 16, 3) := by decide +kernel
theorem dX4_stepPlace_19 : decode cX4_stepPlace 19 = .ok (.iload_n 3, 1) := by decide +kernel
theorem dX4_stepPlace_20 : decode cX4_stepPlace 20 = .ok (.aload_n 0, 1) := by decide +kernel
theorem dX4_stepPlace_21 : decode cX4_stepPlace 21 = .ok (.getfield 22, 3) := by decide +kernel
theorem dX4_stepPlace_24 : decode cX4_stepPlace 24 = .ok (.arraylength, 1) := by decide +kernel
theorem dX4_stepPlace_25 : decode cX4_stepPlace 25 = .ok (.if_icmp .ge 7, 3) := by decide +kernel
theorem dX4_stepPlace_28 : decode cX4_stepPlace 28 = .ok (.iload_n 3, 1) := by decide +kernel
theorem dX4_stepPlace_29 : decode cX4_stepPlace 29 = .ok (.goto 4, 3) := by decide +kernel
theorem dX4_stepPlace_32 : decode cX4_stepPlace 32 = .ok (.iconst (-1), 1) := by decide +kernel
theorem dX4_stepPlace_33 : decode cX4_stepPlace 33 = .ok (.ireturn, 1) := by decide +kernel
theorem dX4_holds_0 : decode cX4_holds 0 = .ok (.iload_n 1, 1) := by decide +kernel
theorem dX4_holds_1 : decode cX4_holds 1 = .ok (.ifCond .lt 29, 3) := by decide +kernel
theorem dX4_holds_4 : decode cX4_holds 4 = .ok (.iload_n 1, 1) := by decide +kernel
theorem dX4_holds_5 : decode cX4_holds 5 = .ok (.aload_n 0, 1) := by decide +kernel
theorem dX4_holds_6 : decode cX4_holds 6 = .ok (.getfield 29, 3) := by decide +kernel
theorem dX4_holds_9 : decode cX4_holds 9 = .ok (.if_icmp .ge 21, 3) := by decide +kernel
theorem dX4_holds_12 : decode cX4_holds 12 = .ok (.iload_n 1, 1) := by decide +kernel
theorem dX4_holds_13 : decode cX4_holds 13 = .ok (.aload_n 0, 1) := by decide +kernel
theorem dX4_holds_14 : decode cX4_holds 14 = .ok (.getfield 26, 3) := by decide +kernel
theorem dX4_holds_17 : decode cX4_holds 17 = .ok (.arraylength, 1) := by decide +kernel
theorem dX4_holds_18 : decode cX4_holds 18 = .ok (.if_icmp .ge 12, 3) := by decide +kernel
theorem dX4_holds_21 : decode cX4_holds 21 = .ok (.aload_n 0, 1) := by decide +kernel
theorem dX4_holds_22 : decode cX4_holds 22 = .ok (.getfield 26, 3) := by decide +kernel
theorem dX4_holds_25 : decode cX4_holds 25 = .ok (.iload_n 1, 1) := by decide +kernel
theorem dX4_holds_26 : decode cX4_holds 26 = .ok (.iaload, 1) := by decide +kernel
theorem dX4_holds_27 : decode cX4_holds 27 = .ok (.goto 4, 3) := by decide +kernel
theorem dX4_holds_30 : decode cX4_holds 30 = .ok (.iconst 0, 1) := by decide +kernel
theorem dX4_holds_31 : decode cX4_holds 31 = .ok (.istore 5, 2) := by decide +kernel
theorem dX4_holds_33 : decode cX4_holds 33 = .ok (.lconst 0, 1) := by decide +kernel
theorem dX4_holds_34 : decode cX4_holds 34 = .ok (.lstore 6, 2) := by decide +kernel
theorem dX4_holds_36 : decode cX4_holds 36 = .ok (.iconst 0, 1) := by decide +kernel
theorem dX4_holds_37 : decode cX4_holds 37 = .ok (.istore 8, 2) := by decide +kernel
theorem dX4_holds_39 : decode cX4_holds 39 = .ok (.iload 8, 2) := by decide +kernel
theorem dX4_holds_41 : decode cX4_holds 41 = .ok (.iload 5, 2) := by decide +kernel
theorem dX4_holds_43 : decode cX4_holds 43 = .ok (.if_icmp .ge 131, 3) := by decide +kernel
theorem dX4_holds_46 : decode cX4_holds 46 = .ok (.aload_n 0, 1) := by decide +kernel
theorem dX4_holds_47 : decode cX4_holds 47 = .ok (.iload_n 1, 1) := by decide +kernel
theorem dX4_holds_48 : decode cX4_holds 48 = .ok (.iload 8, 2) := by decide +kernel
theorem dX4_holds_50 : decode cX4_holds 50 = .ok (.invokevirtual 47, 3) := by decide +kernel
theorem dX4_holds_53 : decode cX4_holds 53 = .ok (.istore 9, 2) := by decide +kernel
theorem dX4_holds_55 : decode cX4_holds 55 = .ok (.iload 9, 2) := by decide +kernel
theorem dX4_holds_57 : decode cX4_holds 57 = .ok (.iconst (-1), 1) := by decide +kernel
theorem dX4_holds_58 : decode cX4_holds 58 = .ok (.if_icmp .ne 7, 3) := by decide +kernel
theorem dX4_holds_61 : decode cX4_holds 61 = .ok (.iconst 0, 1) := by decide +kernel
theorem dX4_holds_62 : decode cX4_holds 62 = .ok (.goto 10, 3) := by decide +kernel
theorem dX4_holds_65 : decode cX4_holds 65 = .ok (.aload_n 0, 1) := by decide +kernel
theorem dX4_holds_66 : decode cX4_holds 66 = .ok (.getfield 22, 3) := by decide +kernel
theorem dX4_holds_69 : decode cX4_holds 69 = .ok (.iload 9, 2) := by decide +kernel
theorem dX4_holds_71 : decode cX4_holds 71 = .ok (.iaload, 1) := by decide +kernel
theorem dX4_holds_72 : decode cX4_holds 72 = .ok (.istore 10, 2) := by decide +kernel
theorem dX4_holds_74 : decode cX4_holds 74 = .ok (.iload 10, 2) := by decide +kernel
theorem dX4_holds_76 : decode cX4_holds 76 = .ok (.invokestatic 55, 3) := by decide +kernel
theorem dX4_holds_79 : decode cX4_holds 79 = .ok (.tableswitch 64 3 5 #[25, 34, 50], 25) := by decide +kernel
theorem dX4_holds_104 : decode cX4_holds 104 = .ok (.lload 6, 2) := by decide +kernel
theorem dX4_holds_106 : decode cX4_holds 106 = .ok (.lconst 1, 1) := by decide +kernel
theorem dX4_holds_107 : decode cX4_holds 107 = .ok (.lxor, 1) := by decide +kernel
theorem dX4_holds_108 : decode cX4_holds 108 = .ok (.lstore 6, 2) := by decide +kernel
theorem dX4_holds_110 : decode cX4_holds 110 = .ok (.goto 58, 3) := by decide +kernel
theorem dX4_holds_113 : decode cX4_holds 113 = .ok (.lload 6, 2) := by decide +kernel
theorem dX4_holds_115 : decode cX4_holds 115 = .ok (.iconst 1, 1) := by decide +kernel
theorem dX4_holds_116 : decode cX4_holds 116 = .ok (.lushr, 1) := by decide +kernel
theorem dX4_holds_117 : decode cX4_holds 117 = .ok (.lload 6, 2) := by decide +kernel
theorem dX4_holds_119 : decode cX4_holds 119 = .ok (.ldc2_w 58, 3) := by decide +kernel
theorem dX4_holds_122 : decode cX4_holds 122 = .ok (.lor, 1) := by decide +kernel
theorem dX4_holds_123 : decode cX4_holds 123 = .ok (.land, 1) := by decide +kernel
theorem dX4_holds_124 : decode cX4_holds 124 = .ok (.lstore 6, 2) := by decide +kernel
theorem dX4_holds_126 : decode cX4_holds 126 = .ok (.goto 42, 3) := by decide +kernel
theorem dX4_holds_129 : decode cX4_holds 129 = .ok (.lload 6, 2) := by decide +kernel
theorem dX4_holds_131 : decode cX4_holds 131 = .ok (.iconst 1, 1) := by decide +kernel
theorem dX4_holds_132 : decode cX4_holds 132 = .ok (.lushr, 1) := by decide +kernel
theorem dX4_holds_133 : decode cX4_holds 133 = .ok (.lload 6, 2) := by decide +kernel
theorem dX4_holds_135 : decode cX4_holds 135 = .ok (.lconst 1, 1) := by decide +kernel
theorem dX4_holds_136 : decode cX4_holds 136 = .ok (.land, 1) := by decide +kernel
theorem dX4_holds_137 : decode cX4_holds 137 = .ok (.lor, 1) := by decide +kernel
theorem dX4_holds_138 : decode cX4_holds 138 = .ok (.lstore 6, 2) := by decide +kernel
theorem dX4_holds_140 : decode cX4_holds 140 = .ok (.goto 28, 3) := by decide +kernel
theorem dX4_holds_143 : decode cX4_holds 143 = .ok (.lload 6, 2) := by decide +kernel
theorem dX4_holds_145 : decode cX4_holds 145 = .ok (.iconst 1, 1) := by decide +kernel
theorem dX4_holds_146 : decode cX4_holds 146 = .ok (.lshl, 1) := by decide +kernel
theorem dX4_holds_147 : decode cX4_holds 147 = .ok (.iload 10, 2) := by decide +kernel
theorem dX4_holds_149 : decode cX4_holds 149 = .ok (.iload_n 2, 1) := by decide +kernel
theorem dX4_holds_150 : decode cX4_holds 150 = .ok (.iload_n 3, 1) := by decide +kernel
theorem dX4_holds_151 : decode cX4_holds 151 = .ok (.iload 4, 2) := by decide +kernel
theorem dX4_holds_153 : decode cX4_holds 153 = .ok (.invokestatic 60, 3) := by decide +kernel
theorem dX4_holds_156 : decode cX4_holds 156 = .ok (.ifCond .eq 7, 3) := by decide +kernel
theorem dX4_holds_159 : decode cX4_holds 159 = .ok (.iconst 1, 1) := by decide +kernel
theorem dX4_holds_160 : decode cX4_holds 160 = .ok (.goto 4, 3) := by decide +kernel
theorem dX4_holds_163 : decode cX4_holds 163 = .ok (.iconst 0, 1) := by decide +kernel
theorem dX4_holds_164 : decode cX4_holds 164 = .ok (.i2l, 1) := by decide +kernel
theorem dX4_holds_165 : decode cX4_holds 165 = .ok (.lor, 1) := by decide +kernel
theorem dX4_holds_166 : decode cX4_holds 166 = .ok (.lstore 6, 2) := by decide +kernel
theorem dX4_holds_168 : decode cX4_holds 168 = .ok (.iinc 8 1, 3) := by decide +kernel
theorem dX4_holds_171 : decode cX4_holds 171 = .ok (.goto (-132), 3) := by decide +kernel
theorem dX4_holds_174 : decode cX4_holds 174 = .ok (.lload 6, 2) := by decide +kernel
theorem dX4_holds_176 : decode cX4_holds 176 = .ok (.lconst 1, 1) := by decide +kernel
theorem dX4_holds_177 : decode cX4_holds 177 = .ok (.land, 1) := by decide +kernel
theorem dX4_holds_178 : decode cX4_holds 178 = .ok (.lconst 0, 1) := by decide +kernel
theorem dX4_holds_179 : decode cX4_holds 179 = .ok (.lcmp, 1) := by decide +kernel
theorem dX4_holds_180 : decode cX4_holds 180 = .ok (.ifCond .eq 7, 3) := by decide +kernel
theorem dX4_holds_183 : decode cX4_holds 183 = .ok (.iconst 1, 1) := by decide +kernel
theorem dX4_holds_184 : decode cX4_holds 184 = .ok (.goto 4, 3) := by decide +kernel
theorem dX4_holds_187 : decode cX4_holds 187 = .ok (.iconst 0, 1) := by decide +kernel
theorem dX4_holds_188 : decode cX4_holds 188 = .ok (.ireturn, 1) := by decide +kernel
theorem dX5_init_0 : decode cX5_init 0 = .ok (.aload_n 0, 1) := by decide +kernel
theorem dX5_init_1 : decode cX5_init 1 = .ok (.invokespecial 3, 3) := by decide +kernel
theorem dX5_init_4 : decode cX5_init 4 = .ok (.aload_n 0, 1) := by decide +kernel
theorem dX5_init_5 : decode cX5_init 5 = .ok (.iconst 3, 1) := by decide +kernel
theorem dX5_init_6 : decode cX5_init 6 = .ok (.putfield 9, 3) := by decide +kernel
theorem dX5_init_9 : decode cX5_init 9 = .ok (.aload_n 0, 1) := by decide +kernel
theorem dX5_init_10 : decode cX5_init 10 = .ok (.iconst 0, 1) := by decide +kernel
theorem dX5_init_11 : decode cX5_init 11 = .ok (.putfield 15, 3) := by decide +kernel
theorem dX5_init_14 : decode cX5_init 14 = .ok (.aload_n 0, 1) := by decide +kernel
theorem dX5_init_15 : decode cX5_init 15 = .ok (.iconst 0, 1) := by decide +kernel
theorem dX5_init_16 : decode cX5_init 16 = .ok (.putfield 18, 3) := by decide +kernel
theorem dX5_init_19 : decode cX5_init 19 = .ok (.aload_n 0, 1) := by decide +kernel
theorem dX5_init_20 : decode cX5_init 20 = .ok (.iload_n 1, 1) := by decide +kernel
theorem dX5_init_21 : decode cX5_init 21 = .ok (.putfield 21, 3) := by decide +kernel
theorem dX5_init_24 : decode cX5_init 24 = .ok (.aload_n 0, 1) := by decide +kernel
theorem dX5_init_25 : decode cX5_init 25 = .ok (.iload_n 2, 1) := by decide +kernel
theorem dX5_init_26 : decode cX5_init 26 = .ok (.putfield 24, 3) := by decide +kernel
theorem dX5_init_29 : decode cX5_init 29 = .ok (.aload_n 0, 1) := by decide +kernel
theorem dX5_init_30 : decode cX5_init 30 = .ok (.iload_n 3, 1) := by decide +kernel
theorem dX5_init_31 : decode cX5_init 31 = .ok (.putfield 27, 3) := by decide +kernel
theorem dX5_init_34 : decode cX5_init 34 = .ok (.return_, 1) := by decide +kernel
theorem dX6_init_0 : decode cX6_init 0 = .ok (.aload_n 0, 1) := by decide +kernel
theorem dX6_init_1 : decode cX6_init 1 = .ok (.invokespecial 3, 3) := by decide +kernel
theorem dX6_init_4 : decode cX6_init 4 = .ok (.aload_n 0, 1) := by decide +kernel
theorem dX6_init_5 : decode cX6_init 5 = .ok (.bipush 8, 2) := by decide +kernel
theorem dX6_init_7 : decode cX6_init 7 = .ok (.newarray .int, 2) := by decide +kernel
theorem dX6_init_9 : decode cX6_init 9 = .ok (.putfield 11, 3) := by decide +kernel
theorem dX6_init_12 : decode cX6_init 12 = .ok (.aload_n 0, 1) := by decide +kernel
theorem dX6_init_13 : decode cX6_init 13 = .ok (.sipush 1536, 3) := by decide +kernel
theorem dX6_init_16 : decode cX6_init 16 = .ok (.newarray .int, 2) := by decide +kernel
theorem dX6_init_18 : decode cX6_init 18 = .ok (.putfield 15, 3) := by decide +kernel
theorem dX6_init_21 : decode cX6_init 21 = .ok (.return_, 1) := by decide +kernel
theorem dX6_isModel_0 : decode cX6_isModel 0 = .ok (.iload_n 0, 1) := by decide +kernel
theorem dX6_isModel_1 : decode cX6_isModel 1 = .ok (.ifCond .lt 13, 3) := by decide +kernel
theorem dX6_isModel_4 : decode cX6_isModel 4 = .ok (.iload_n 0, 1) := by decide +kernel
theorem dX6_isModel_5 : decode cX6_isModel 5 = .ok (.bipush 8, 2) := by decide +kernel
theorem dX6_isModel_7 : decode cX6_isModel 7 = .ok (.if_icmp .ge 7, 3) := by decide +kernel
theorem dX6_isModel_10 : decode cX6_isModel 10 = .ok (.iconst 1, 1) := by decide +kernel
theorem dX6_isModel_11 : decode cX6_isModel 11 = .ok (.goto 4, 3) := by decide +kernel
theorem dX6_isModel_14 : decode cX6_isModel 14 = .ok (.iconst 0, 1) := by decide +kernel
theorem dX6_isModel_15 : decode cX6_isModel 15 = .ok (.ireturn, 1) := by decide +kernel
theorem dX6_partsOf_0 : decode cX6_partsOf 0 = .ok (.iload_n 1, 1) := by decide +kernel
theorem dX6_partsOf_1 : decode cX6_partsOf 1 = .ok (.ifCond .lt 21, 3) := by decide +kernel
theorem dX6_partsOf_4 : decode cX6_partsOf 4 = .ok (.iload_n 1, 1) := by decide +kernel
theorem dX6_partsOf_5 : decode cX6_partsOf 5 = .ok (.aload_n 0, 1) := by decide +kernel
theorem dX6_partsOf_6 : decode cX6_partsOf 6 = .ok (.getfield 11, 3) := by decide +kernel
theorem dX6_partsOf_9 : decode cX6_partsOf 9 = .ok (.arraylength, 1) := by decide +kernel
theorem dX6_partsOf_10 : decode cX6_partsOf 10 = .ok (.if_icmp .ge 12, 3) := by decide +kernel
theorem dX6_partsOf_13 : decode cX6_partsOf 13 = .ok (.aload_n 0, 1) := by decide +kernel
theorem dX6_partsOf_14 : decode cX6_partsOf 14 = .ok (.getfield 11, 3) := by decide +kernel
theorem dX6_partsOf_17 : decode cX6_partsOf 17 = .ok (.iload_n 1, 1) := by decide +kernel
theorem dX6_partsOf_18 : decode cX6_partsOf 18 = .ok (.iaload, 1) := by decide +kernel
theorem dX6_partsOf_19 : decode cX6_partsOf 19 = .ok (.goto 4, 3) := by decide +kernel
theorem dX6_partsOf_22 : decode cX6_partsOf 22 = .ok (.iconst 0, 1) := by decide +kernel
theorem dX6_partsOf_23 : decode cX6_partsOf 23 = .ok (.ireturn, 1) := by decide +kernel
theorem dX6_add_0 : decode cX6_add 0 = .ok (.aload_n 0, 1) := by decide +kernel
theorem dX6_add_1 : decode cX6_add 1 = .ok (.iload_n 1, 1) := by decide +kernel
theorem dX6_add_2 : decode cX6_add 2 = .ok (.invokevirtual 18, 3) := by decide +kernel
theorem dX6_add_5 : decode cX6_add 5 = .ok (.istore_n 2, 1) := by decide +kernel
theorem dX6_add_6 : decode cX6_add 6 = .ok (.iload_n 1, 1) := by decide +kernel
theorem dX6_add_7 : decode cX6_add 7 = .ok (.ifCond .lt 27, 3) := by decide +kernel
theorem dX6_add_10 : decode cX6_add 10 = .ok (.iload_n 1, 1) := by decide +kernel
theorem dX6_add_11 : decode cX6_add 11 = .ok (.aload_n 0, 1) := by decide +kernel
theorem dX6_add_12 : decode cX6_add 12 = .ok (.getfield 11, 3) := by decide +kernel
theorem dX6_add_15 : decode cX6_add 15 = .ok (.arraylength, 1) := by decide +kernel
theorem dX6_add_16 : decode cX6_add 16 = .ok (.if_icmp .ge 18, 3) := by decide +kernel
theorem dX6_add_19 : decode cX6_add 19 = .ok (.iload_n 2, 1) := by decide +kernel
theorem dX6_add_20 : decode cX6_add 20 = .ok (.bipush 24, 2) := by decide +kernel
theorem dX6_add_22 : decode cX6_add 22 = .ok (.if_icmp .ge 12, 3) := by decide +kernel
theorem dX6_add_25 : decode cX6_add 25 = .ok (.aload_n 0, 1) := by decide +kernel
theorem dX6_add_26 : decode cX6_add 26 = .ok (.getfield 11, 3) := by decide +kernel
theorem dX6_add_29 : decode cX6_add 29 = .ok (.iload_n 1, 1) := by decide +kernel
theorem dX6_add_30 : decode cX6_add 30 = .ok (.iload_n 2, 1) := by decide +kernel
theorem dX6_add_31 : decode cX6_add 31 = .ok (.iconst 1, 1) := by decide +kernel
theorem dX6_add_32 : decode cX6_add 32 = .ok (.iadd, 1) := by decide +kernel
theorem dX6_add_33 : decode cX6_add 33 = .ok (.iastore, 1) := by decide +kernel
theorem dX6_add_34 : decode cX6_add 34 = .ok (.iload_n 2, 1) := by decide +kernel
theorem dX6_add_35 : decode cX6_add 35 = .ok (.ireturn, 1) := by decide +kernel
theorem dX6_factOf_0 : decode cX6_factOf 0 = .ok (.aload_n 0, 1) := by decide +kernel
theorem dX6_factOf_1 : decode cX6_factOf 1 = .ok (.iload_n 1, 1) := by decide +kernel
theorem dX6_factOf_2 : decode cX6_factOf 2 = .ok (.iload_n 2, 1) := by decide +kernel
theorem dX6_factOf_3 : decode cX6_factOf 3 = .ok (.iload_n 3, 1) := by decide +kernel
theorem dX6_factOf_4 : decode cX6_factOf 4 = .ok (.invokevirtual 22, 3) := by decide +kernel
theorem dX6_factOf_7 : decode cX6_factOf 7 = .ok (.istore 4, 2) := by decide +kernel
theorem dX6_factOf_9 : decode cX6_factOf 9 = .ok (.iload 4, 2) := by decide +kernel
theorem dX6_factOf_11 : decode cX6_factOf 11 = .ok (.iconst (-1), 1) := by decide +kernel
theorem dX6_factOf_12 : decode cX6_factOf 12 = .ok (.if_icmp .ne 7, 3) := by decide +kernel
theorem dX6_factOf_15 : decode cX6_factOf 15 = .ok (.iconst (-1), 1) := by decide +kernel
theorem dX6_factOf_16 : decode cX6_factOf 16 = .ok (.goto 10, 3) := by decide +kernel
theorem dX6_factOf_19 : decode cX6_factOf 19 = .ok (.aload_n 0, 1) := by decide +kernel
theorem dX6_factOf_20 : decode cX6_factOf 20 = .ok (.getfield 15, 3) := by decide +kernel
theorem dX6_factOf_23 : decode cX6_factOf 23 = .ok (.iload 4, 2) := by decide +kernel
theorem dX6_factOf_25 : decode cX6_factOf 25 = .ok (.iaload, 1) := by decide +kernel
theorem dX6_factOf_26 : decode cX6_factOf 26 = .ok (.ireturn, 1) := by decide +kernel
theorem dX6_store_0 : decode cX6_store 0 = .ok (.aload_n 0, 1) := by decide +kernel
theorem dX6_store_1 : decode cX6_store 1 = .ok (.iload_n 1, 1) := by decide +kernel
theorem dX6_store_2 : decode cX6_store 2 = .ok (.iload_n 2, 1) := by decide +kernel
theorem dX6_store_3 : decode cX6_store 3 = .ok (.iload_n 3, 1) := by decide +kernel
theorem dX6_store_4 : decode cX6_store 4 = .ok (.invokevirtual 22, 3) := by decide +kernel
theorem dX6_store_7 : decode cX6_store 7 = .ok (.istore 5, 2) := by decide +kernel
theorem dX6_store_9 : decode cX6_store 9 = .ok (.iload 5, 2) := by decide +kernel
theorem dX6_store_11 : decode cX6_store 11 = .ok (.iconst (-1), 1) := by decide +kernel
theorem dX6_store_12 : decode cX6_store 12 = .ok (.if_icmp .eq 12, 3) := by decide +kernel
theorem dX6_store_15 : decode cX6_store 15 = .ok (.aload_n 0, 1) := by decide +kernel
theorem dX6_store_16 : decode cX6_store 16 = .ok (.getfield 15, 3) := by decide +kernel
theorem dX6_store_19 : decode cX6_store 19 = .ok (.iload 5, 2) := by decide +kernel
theorem dX6_store_21 : decode cX6_store 21 = .ok (.iload 4, 2) := by decide +kernel
theorem dX6_store_23 : decode cX6_store 23 = .ok (.iastore, 1) := by decide +kernel
theorem dX6_store_24 : decode cX6_store 24 = .ok (.return_, 1) := by decide +kernel
theorem dX6_hasShell_0 : decode cX6_hasShell 0 = .ok (.iconst 0, 1) := by decide +kernel
theorem dX6_hasShell_1 : decode cX6_hasShell 1 = .ok (.istore_n 2, 1) := by decide +kernel
theorem dX6_hasShell_2 : decode cX6_hasShell 2 = .ok (.iload_n 2, 1) := by decide +kernel
theorem dX6_hasShell_3 : decode cX6_hasShell 3 = .ok (.aload_n 0, 1) := by decide +kernel
theorem dX6_hasShell_4 : decode cX6_hasShell 4 = .ok (.iload_n 1, 1) := by decide +kernel
theorem dX6_hasShell_5 : decode cX6_hasShell 5 = .ok (.invokevirtual 18, 3) := by decide +kernel
theorem dX6_hasShell_8 : decode cX6_hasShell 8 = .ok (.if_icmp .ge 22, 3) := by decide +kernel
theorem dX6_hasShell_11 : decode cX6_hasShell 11 = .ok (.aload_n 0, 1) := by decide +kernel
theorem dX6_hasShell_12 : decode cX6_hasShell 12 = .ok (.iload_n 1, 1) := by decide +kernel
theorem dX6_hasShell_13 : decode cX6_hasShell 13 = .ok (.iload_n 2, 1) := by decide +kernel
theorem dX6_hasShell_14 : decode cX6_hasShell 14 = .ok (.iconst 0, 1) := by decide +kernel
theorem dX6_hasShell_15 : decode cX6_hasShell 15 = .ok (.invokevirtual 26, 3) := by decide +kernel
theorem dX6_hasShell_18 : decode cX6_hasShell 18 = .ok (.iconst 5, 1) := by decide +kernel
theorem dX6_hasShell_19 : decode cX6_hasShell 19 = .ok (.if_icmp .ne 5, 3) := by decide +kernel
theorem dX6_hasShell_22 : decode cX6_hasShell 22 = .ok (.iconst 1, 1) := by decide +kernel
theorem dX6_hasShell_23 : decode cX6_hasShell 23 = .ok (.ireturn, 1) := by decide +kernel
theorem dX6_hasShell_24 : decode cX6_hasShell 24 = .ok (.iinc 2 1, 3) := by decide +kernel
theorem dX6_hasShell_27 : decode cX6_hasShell 27 = .ok (.goto (-25), 3) := by decide +kernel
theorem dX6_hasShell_30 : decode cX6_hasShell 30 = .ok (.iconst 0, 1) := by decide +kernel
theorem dX6_hasShell_31 : decode cX6_hasShell 31 = .ok (.ireturn, 1) := by decide +kernel
theorem dX6_placeOf_0 : decode cX6_placeOf 0 = .ok (.iload_n 2, 1) := by decide +kernel
theorem dX6_placeOf_1 : decode cX6_placeOf 1 = .ok (.ifCond .lt 26, 3) := by decide +kernel
theorem dX6_placeOf_4 : decode cX6_placeOf 4 = .ok (.iload_n 2, 1) := by decide +kernel
theorem dX6_placeOf_5 : decode cX6_placeOf 5 = .ok (.aload_n 0, 1) := by decide +kernel
theorem dX6_placeOf_6 : decode cX6_placeOf 6 = .ok (.iload_n 1, 1) := by decide +kernel
theorem dX6_placeOf_7 : decode cX6_placeOf 7 = .ok (.invokevirtual 18, 3) := by decide +kernel
theorem dX6_placeOf_10 : decode cX6_placeOf 10 = .ok (.if_icmp .ge 17, 3) := by decide +kernel
theorem dX6_placeOf_13 : decode cX6_placeOf 13 = .ok (.iload_n 3, 1) := by decide +kernel
theorem dX6_placeOf_14 : decode cX6_placeOf 14 = .ok (.ifCond .lt 13, 3) := by decide +kernel
theorem dX6_placeOf_17 : decode cX6_placeOf 17 = .ok (.iload_n 3, 1) := by decide +kernel
theorem dX6_placeOf_18 : decode cX6_placeOf 18 = .ok (.bipush 8, 2) := by decide +kernel
theorem dX6_placeOf_20 : decode cX6_placeOf 20 = .ok (.if_icmp .ge 7, 3) := by decide +kernel
theorem dX6_placeOf_23 : decode cX6_placeOf 23 = .ok (.iconst 1, 1) := by decide +kernel
theorem dX6_placeOf_24 : decode cX6_placeOf 24 = .ok (.goto 4, 3) := by decide +kernel
theorem dX6_placeOf_27 : decode cX6_placeOf 27 = .ok (.iconst 0, 1) := by decide +kernel
theorem dX6_placeOf_28 : decode cX6_placeOf 28 = .ok (.istore 4, 2) := by decide +kernel
theorem dX6_placeOf_30 : decode cX6_placeOf 30 = .ok (.iload_n 1, 1) := by decide +kernel
theorem dX6_placeOf_31 : decode cX6_placeOf 31 = .ok (.bipush 24, 2) := by decide +kernel
theorem dX6_placeOf_33 : decode cX6_placeOf 33 = .ok (.imul, 1) := by decide +kernel
theorem dX6_placeOf_34 : decode cX6_placeOf 34 = .ok (.iload_n 2, 1) := by decide +kernel
theorem dX6_placeOf_35 : decode cX6_placeOf 35 = .ok (.iadd, 1) := by decide +kernel
theorem dX6_placeOf_36 : decode cX6_placeOf 36 = .ok (.bipush 8, 2) := by decide +kernel
theorem dX6_placeOf_38 : decode cX6_placeOf 38 = .ok (.imul, 1) := by decide +kernel
theorem dX6_placeOf_39 : decode cX6_placeOf 39 = .ok (.iload_n 3, 1) := by decide +kernel
theorem dX6_placeOf_40 : decode cX6_placeOf 40 = .ok (.iadd, 1) := by decide +kernel
theorem dX6_placeOf_41 : decode cX6_placeOf 41 = .ok (.istore 5, 2) := by decide +kernel
theorem dX6_placeOf_43 : decode cX6_placeOf 43 = .ok (.iload 4, 2) := by decide +kernel
theorem dX6_placeOf_45 : decode cX6_placeOf 45 = .ok (.ifCond .eq 23, 3) := by decide +kernel
theorem dX6_placeOf_48 : decode cX6_placeOf 48 = .ok (.iload 5, 2) := by decide +kernel
theorem dX6_placeOf_50 : decode cX6_placeOf 50 = .ok (.ifCond .lt 18, 3) := by decide +kernel
theorem dX6_placeOf_53 : decode cX6_placeOf 53 = .ok (.iload 5, 2) := by decide +kernel
theorem dX6_placeOf_55 : decode cX6_placeOf 55 = .ok (.aload_n 0, 1) := by decide +kernel
theorem dX6_placeOf_56 : decode cX6_placeOf 56 = .ok (.getfield 15, 3) := by decide +kernel
theorem dX6_placeOf_59 : decode cX6_placeOf 59 = .ok (.arraylength, 1) := by decide +kernel
theorem dX6_placeOf_60 : decode cX6_placeOf 60 = .ok (.if_icmp .ge 8, 3) := by decide +kernel
theorem dX6_placeOf_63 : decode cX6_placeOf 63 = .ok (.iload 5, 2) := by decide +kernel
theorem dX6_placeOf_65 : decode cX6_placeOf 65 = .ok (.goto 4, 3) := by decide +kernel
theorem dX6_placeOf_68 : decode cX6_placeOf 68 = .ok (.iconst (-1), 1) := by decide +kernel
theorem dX6_placeOf_69 : decode cX6_placeOf 69 = .ok (.ireturn, 1) := by decide +kernel
theorem dX7_init_0 : decode cX7_init 0 = .ok (.aload_n 0, 1) := by decide +kernel
theorem dX7_init_1 : decode cX7_init 1 = .ok (.invokespecial 3, 3) := by decide +kernel
theorem dX7_init_4 : decode cX7_init 4 = .ok (.aload_n 0, 1) := by decide +kernel
theorem dX7_init_5 : decode cX7_init 5 = .ok (.bipush 8, 2) := by decide +kernel
theorem dX7_init_7 : decode cX7_init 7 = .ok (.newarray .int, 2) := by decide +kernel
theorem dX7_init_9 : decode cX7_init 9 = .ok (.putfield 11, 3) := by decide +kernel
theorem dX7_init_12 : decode cX7_init 12 = .ok (.aload_n 0, 1) := by decide +kernel
theorem dX7_init_13 : decode cX7_init 13 = .ok (.sipush 128, 3) := by decide +kernel
theorem dX7_init_16 : decode cX7_init 16 = .ok (.newarray .int, 2) := by decide +kernel
theorem dX7_init_18 : decode cX7_init 18 = .ok (.putfield 15, 3) := by decide +kernel
theorem dX7_init_21 : decode cX7_init 21 = .ok (.aload_n 0, 1) := by decide +kernel
theorem dX7_init_22 : decode cX7_init 22 = .ok (.sipush 1536, 3) := by decide +kernel
theorem dX7_init_25 : decode cX7_init 25 = .ok (.newarray .long, 2) := by decide +kernel
theorem dX7_init_27 : decode cX7_init 27 = .ok (.putfield 18, 3) := by decide +kernel
theorem dX7_init_30 : decode cX7_init 30 = .ok (.aload_n 0, 1) := by decide +kernel
theorem dX7_init_31 : decode cX7_init 31 = .ok (.iconst 0, 1) := by decide +kernel
theorem dX7_init_32 : decode cX7_init 32 = .ok (.putfield 22, 3) := by decide +kernel
theorem dX7_init_35 : decode cX7_init 35 = .ok (.aload_n 0, 1) := by decide +kernel
theorem dX7_init_36 : decode cX7_init 36 = .ok (.getfield 15, 3) := by decide +kernel
theorem dX7_init_39 : decode cX7_init 39 = .ok (.iconst (-1), 1) := by decide +kernel
theorem dX7_init_40 : decode cX7_init 40 = .ok (.invokestatic 26, 3) := by decide +kernel
theorem dX7_init_43 : decode cX7_init 43 = .ok (.return_, 1) := by decide +kernel
theorem dX7_isWidth_0 : decode cX7_isWidth 0 = .ok (.iload_n 0, 1) := by decide +kernel
theorem dX7_isWidth_1 : decode cX7_isWidth 1 = .ok (.ifCond .lt 12, 3) := by decide +kernel
theorem dX7_isWidth_4 : decode cX7_isWidth 4 = .ok (.iload_n 0, 1) := by decide +kernel
theorem dX7_isWidth_5 : decode cX7_isWidth 5 = .ok (.iconst 2, 1) := by decide +kernel
theorem dX7_isWidth_6 : decode cX7_isWidth 6 = .ok (.if_icmp .gt 7, 3) := by decide +kernel
theorem dX7_isWidth_9 : decode cX7_isWidth 9 = .ok (.iconst 1, 1) := by decide +kernel
theorem dX7_isWidth_10 : decode cX7_isWidth 10 = .ok (.goto 4, 3) := by decide +kernel
theorem dX7_isWidth_13 : decode cX7_isWidth 13 = .ok (.iconst 0, 1) := by decide +kernel
theorem dX7_isWidth_14 : decode cX7_isWidth 14 = .ok (.ireturn, 1) := by decide +kernel
theorem dX7_made_0 : decode cX7_made 0 = .ok (.aload_n 0, 1) := by decide +kernel
theorem dX7_made_1 : decode cX7_made 1 = .ok (.getfield 22, 3) := by decide +kernel
theorem dX7_made_4 : decode cX7_made 4 = .ok (.ireturn, 1) := by decide +kernel
theorem dX7_open_0 : decode cX7_open 0 = .ok (.aload_n 0, 1) := by decide +kernel
theorem dX7_open_1 : decode cX7_open 1 = .ok (.getfield 22, 3) := by decide +kernel
theorem dX7_open_4 : decode cX7_open 4 = .ok (.ifCond .lt 15, 3) := by decide +kernel
theorem dX7_open_7 : decode cX7_open 7 = .ok (.aload_n 0, 1) := by decide +kernel
theorem dX7_open_8 : decode cX7_open 8 = .ok (.getfield 22, 3) := by decide +kernel
theorem dX7_open_11 : decode cX7_open 11 = .ok (.aload_n 0, 1) := by decide +kernel
theorem dX7_open_12 : decode cX7_open 12 = .ok (.getfield 11, 3) := by decide +kernel
theorem dX7_open_15 : decode cX7_open 15 = .ok (.arraylength, 1) := by decide +kernel
theorem dX7_open_16 : decode cX7_open 16 = .ok (.if_icmp .lt 5, 3) := by decide +kernel
theorem dX7_open_19 : decode cX7_open 19 = .ok (.iconst (-1), 1) := by decide +kernel
theorem dX7_open_20 : decode cX7_open 20 = .ok (.ireturn, 1) := by decide +kernel
theorem dX7_open_21 : decode cX7_open 21 = .ok (.aload_n 0, 1) := by decide +kernel
theorem dX7_open_22 : decode cX7_open 22 = .ok (.getfield 11, 3) := by decide +kernel
theorem dX7_open_25 : decode cX7_open 25 = .ok (.aload_n 0, 1) := by decide +kernel
theorem dX7_open_26 : decode cX7_open 26 = .ok (.getfield 22, 3) := by decide +kernel
theorem dX7_open_29 : decode cX7_open 29 = .ok (.iload_n 1, 1) := by decide +kernel
theorem dX7_open_30 : decode cX7_open 30 = .ok (.iastore, 1) := by decide +kernel
theorem dX7_open_31 : decode cX7_open 31 = .ok (.aload_n 0, 1) := by decide +kernel
theorem dX7_open_32 : decode cX7_open 32 = .ok (.dup, 1) := by decide +kernel
theorem dX7_open_33 : decode cX7_open 33 = .ok (.getfield 22, 3) := by decide +kernel
theorem dX7_open_36 : decode cX7_open 36 = .ok (.iconst 1, 1) := by decide +kernel
theorem dX7_open_37 : decode cX7_open 37 = .ok (.iadd, 1) := by decide +kernel
theorem dX7_open_38 : decode cX7_open 38 = .ok (.putfield 22, 3) := by decide +kernel
theorem dX7_open_41 : decode cX7_open 41 = .ok (.aload_n 0, 1) := by decide +kernel
theorem dX7_open_42 : decode cX7_open 42 = .ok (.getfield 22, 3) := by decide +kernel
theorem dX7_open_45 : decode cX7_open 45 = .ok (.iconst 1, 1) := by decide +kernel
theorem dX7_open_46 : decode cX7_open 46 = .ok (.isub, 1) := by decide +kernel
theorem dX7_open_47 : decode cX7_open 47 = .ok (.ireturn, 1) := by decide +kernel
theorem dX7_slotAt_0 : decode cX7_slotAt 0 = .ok (.iload_n 1, 1) := by decide +kernel
theorem dX7_slotAt_1 : decode cX7_slotAt 1 = .ok (.ifCond .lt 30, 3) := by decide +kernel
theorem dX7_slotAt_4 : decode cX7_slotAt 4 = .ok (.iload_n 1, 1) := by decide +kernel
theorem dX7_slotAt_5 : decode cX7_slotAt 5 = .ok (.aload_n 0, 1) := by decide +kernel
theorem dX7_slotAt_6 : decode cX7_slotAt 6 = .ok (.getfield 22, 3) := by decide +kernel
theorem dX7_slotAt_9 : decode cX7_slotAt 9 = .ok (.if_icmp .ge 22, 3) := by decide +kernel
theorem dX7_slotAt_12 : decode cX7_slotAt 12 = .ok (.iload_n 2, 1) := by decide +kernel
theorem dX7_slotAt_13 : decode cX7_slotAt 13 = .ok (.ifCond .lt 18, 3) := by decide +kernel
theorem dX7_slotAt_16 : decode cX7_slotAt 16 = .ok (.iload_n 2, 1) := by decide +kernel
theorem dX7_slotAt_17 : decode cX7_slotAt 17 = .ok (.bipush 16, 2) := by decide +kernel
theorem dX7_slotAt_19 : decode cX7_slotAt 19 = .ok (.if_icmp .ge 12, 3) := by decide +kernel
theorem dX7_slotAt_22 : decode cX7_slotAt 22 = .ok (.iload_n 1, 1) := by decide +kernel
theorem dX7_slotAt_23 : decode cX7_slotAt 23 = .ok (.bipush 16, 2) := by decide +kernel
theorem dX7_slotAt_25 : decode cX7_slotAt 25 = .ok (.imul, 1) := by decide +kernel
theorem dX7_slotAt_26 : decode cX7_slotAt 26 = .ok (.iload_n 2, 1) := by decide +kernel
theorem dX7_slotAt_27 : decode cX7_slotAt 27 = .ok (.iadd, 1) := by decide +kernel
theorem dX7_slotAt_28 : decode cX7_slotAt 28 = .ok (.goto 4, 3) := by decide +kernel
theorem dX7_slotAt_31 : decode cX7_slotAt 31 = .ok (.iconst (-1), 1) := by decide +kernel
theorem dX7_slotAt_32 : decode cX7_slotAt 32 = .ok (.ireturn, 1) := by decide +kernel
theorem dX7_lengthAt_0 : decode cX7_lengthAt 0 = .ok (.iload_n 1, 1) := by decide +kernel
theorem dX7_lengthAt_1 : decode cX7_lengthAt 1 = .ok (.ifCond .lt 21, 3) := by decide +kernel
theorem dX7_lengthAt_4 : decode cX7_lengthAt 4 = .ok (.iload_n 1, 1) := by decide +kernel
theorem dX7_lengthAt_5 : decode cX7_lengthAt 5 = .ok (.aload_n 0, 1) := by decide +kernel
theorem dX7_lengthAt_6 : decode cX7_lengthAt 6 = .ok (.getfield 15, 3) := by decide +kernel
theorem dX7_lengthAt_9 : decode cX7_lengthAt 9 = .ok (.arraylength, 1) := by decide +kernel
theorem dX7_lengthAt_10 : decode cX7_lengthAt 10 = .ok (.if_icmp .ge 12, 3) := by decide +kernel
theorem dX7_lengthAt_13 : decode cX7_lengthAt 13 = .ok (.aload_n 0, 1) := by decide +kernel
theorem dX7_lengthAt_14 : decode cX7_lengthAt 14 = .ok (.getfield 15, 3) := by decide +kernel
theorem dX7_lengthAt_17 : decode cX7_lengthAt 17 = .ok (.iload_n 1, 1) := by decide +kernel
theorem dX7_lengthAt_18 : decode cX7_lengthAt 18 = .ok (.iaload, 1) := by decide +kernel
theorem dX7_lengthAt_19 : decode cX7_lengthAt 19 = .ok (.goto 4, 3) := by decide +kernel
theorem dX7_lengthAt_22 : decode cX7_lengthAt 22 = .ok (.iconst (-1), 1) := by decide +kernel
theorem dX7_lengthAt_23 : decode cX7_lengthAt 23 = .ok (.ireturn, 1) := by decide +kernel
theorem dX7_renew_0 : decode cX7_renew 0 = .ok (.iload_n 1, 1) := by decide +kernel
theorem dX7_renew_1 : decode cX7_renew 1 = .ok (.ifCond .lt 12, 3) := by decide +kernel
theorem dX7_renew_4 : decode cX7_renew 4 = .ok (.iload_n 1, 1) := by decide +kernel
theorem dX7_renew_5 : decode cX7_renew 5 = .ok (.aload_n 0, 1) := by decide +kernel
theorem dX7_renew_6 : decode cX7_renew 6 = .ok (.getfield 15, 3) := by decide +kernel
theorem dX7_renew_9 : decode cX7_renew 9 = .ok (.arraylength, 1) := by decide +kernel
theorem dX7_renew_10 : decode cX7_renew 10 = .ok (.if_icmp .lt 4, 3) := by decide +kernel
theorem dX7_renew_13 : decode cX7_renew 13 = .ok (.return_, 1) := by decide +kernel
theorem dX7_renew_14 : decode cX7_renew 14 = .ok (.aload_n 0, 1) := by decide +kernel
theorem dX7_renew_15 : decode cX7_renew 15 = .ok (.getfield 15, 3) := by decide +kernel
theorem dX7_renew_18 : decode cX7_renew 18 = .ok (.iload_n 1, 1) := by decide +kernel
theorem dX7_renew_19 : decode cX7_renew 19 = .ok (.iload_n 2, 1) := by decide +kernel
theorem dX7_renew_20 : decode cX7_renew 20 = .ok (.iastore, 1) := by decide +kernel
theorem dX7_renew_21 : decode cX7_renew 21 = .ok (.iconst 0, 1) := by decide +kernel
theorem dX7_renew_22 : decode cX7_renew 22 = .ok (.istore_n 3, 1) := by decide +kernel
theorem dX7_renew_23 : decode cX7_renew 23 = .ok (.iload_n 3, 1) := by decide +kernel
theorem dX7_renew_24 : decode cX7_renew 24 = .ok (.iload_n 2, 1) := by decide +kernel
theorem dX7_renew_25 : decode cX7_renew 25 = .ok (.if_icmp .ge 17, 3) := by decide +kernel
theorem dX7_renew_28 : decode cX7_renew 28 = .ok (.aload_n 0, 1) := by decide +kernel
theorem dX7_renew_29 : decode cX7_renew 29 = .ok (.iload_n 1, 1) := by decide +kernel
theorem dX7_renew_30 : decode cX7_renew 30 = .ok (.iload_n 3, 1) := by decide +kernel
theorem dX7_renew_31 : decode cX7_renew 31 = .ok (.lconst 0, 1) := by decide +kernel
theorem dX7_renew_32 : decode cX7_renew 32 = .ok (.invokevirtual 32, 3) := by decide +kernel
theorem dX7_renew_35 : decode cX7_renew 35 = .ok (.pop, 1) := by decide +kernel
theorem dX7_renew_36 : decode cX7_renew 36 = .ok (.iinc 3 1, 3) := by decide +kernel
theorem dX7_renew_39 : decode cX7_renew 39 = .ok (.goto (-16), 3) := by decide +kernel
theorem dX7_renew_42 : decode cX7_renew 42 = .ok (.return_, 1) := by decide +kernel
theorem dX7_write_0 : decode cX7_write 0 = .ok (.aload_n 0, 1) := by decide +kernel
theorem dX7_write_1 : decode cX7_write 1 = .ok (.iload_n 1, 1) := by decide +kernel
theorem dX7_write_2 : decode cX7_write 2 = .ok (.iload_n 2, 1) := by decide +kernel
theorem dX7_write_3 : decode cX7_write 3 = .ok (.invokevirtual 36, 3) := by decide +kernel
theorem dX7_write_6 : decode cX7_write 6 = .ok (.istore 5, 2) := by decide +kernel
theorem dX7_write_8 : decode cX7_write 8 = .ok (.iload 5, 2) := by decide +kernel
theorem dX7_write_10 : decode cX7_write 10 = .ok (.iconst (-1), 1) := by decide +kernel
theorem dX7_write_11 : decode cX7_write 11 = .ok (.if_icmp .ne 5, 3) := by decide +kernel
theorem dX7_write_14 : decode cX7_write 14 = .ok (.iconst 0, 1) := by decide +kernel
theorem dX7_write_15 : decode cX7_write 15 = .ok (.ireturn, 1) := by decide +kernel
theorem dX7_write_16 : decode cX7_write 16 = .ok (.aload_n 0, 1) := by decide +kernel
theorem dX7_write_17 : decode cX7_write 17 = .ok (.getfield 18, 3) := by decide +kernel
theorem dX7_write_20 : decode cX7_write 20 = .ok (.iload 5, 2) := by decide +kernel
theorem dX7_write_22 : decode cX7_write 22 = .ok (.aload_n 0, 1) := by decide +kernel
theorem dX7_write_23 : decode cX7_write 23 = .ok (.iload_n 1, 1) := by decide +kernel
theorem dX7_write_24 : decode cX7_write 24 = .ok (.lload_n 3, 1) := by decide +kernel
theorem dX7_write_25 : decode cX7_write 25 = .ok (.invokevirtual 40, 3) := by decide +kernel
theorem dX7_write_28 : decode cX7_write 28 = .ok (.lastore, 1) := by decide +kernel
theorem dX7_write_29 : decode cX7_write 29 = .ok (.iconst 1, 1) := by decide +kernel
theorem dX7_write_30 : decode cX7_write 30 = .ok (.ireturn, 1) := by decide +kernel
theorem dX7_read_0 : decode cX7_read 0 = .ok (.aload_n 0, 1) := by decide +kernel
theorem dX7_read_1 : decode cX7_read 1 = .ok (.iload_n 1, 1) := by decide +kernel
theorem dX7_read_2 : decode cX7_read 2 = .ok (.iload_n 2, 1) := by decide +kernel
theorem dX7_read_3 : decode cX7_read 3 = .ok (.invokevirtual 36, 3) := by decide +kernel
theorem dX7_read_6 : decode cX7_read 6 = .ok (.istore_n 3, 1) := by decide +kernel
theorem dX7_read_7 : decode cX7_read 7 = .ok (.iload_n 3, 1) := by decide +kernel
theorem dX7_read_8 : decode cX7_read 8 = .ok (.iconst (-1), 1) := by decide +kernel
theorem dX7_read_9 : decode cX7_read 9 = .ok (.if_icmp .ne 7, 3) := by decide +kernel
theorem dX7_read_12 : decode cX7_read 12 = .ok (.lconst 0, 1) := by decide +kernel
theorem dX7_read_13 : decode cX7_read 13 = .ok (.goto 9, 3) := by decide +kernel
theorem dX7_read_16 : decode cX7_read 16 = .ok (.aload_n 0, 1) := by decide +kernel
theorem dX7_read_17 : decode cX7_read 17 = .ok (.getfield 18, 3) := by decide +kernel
theorem dX7_read_20 : decode cX7_read 20 = .ok (.iload_n 3, 1) := by decide +kernel
theorem dX7_read_21 : decode cX7_read 21 = .ok (.laload, 1) := by decide +kernel
theorem dX7_read_22 : decode cX7_read 22 = .ok (.lreturn, 1) := by decide +kernel
theorem dX7_placeOf_0 : decode cX7_placeOf 0 = .ok (.iload_n 1, 1) := by decide +kernel
theorem dX7_placeOf_1 : decode cX7_placeOf 1 = .ok (.bipush 12, 2) := by decide +kernel
theorem dX7_placeOf_3 : decode cX7_placeOf 3 = .ok (.imul, 1) := by decide +kernel
theorem dX7_placeOf_4 : decode cX7_placeOf 4 = .ok (.iload_n 2, 1) := by decide +kernel
theorem dX7_placeOf_5 : decode cX7_placeOf 5 = .ok (.iadd, 1) := by decide +kernel
theorem dX7_placeOf_6 : decode cX7_placeOf 6 = .ok (.istore_n 3, 1) := by decide +kernel
theorem dX7_placeOf_7 : decode cX7_placeOf 7 = .ok (.iload_n 2, 1) := by decide +kernel
theorem dX7_placeOf_8 : decode cX7_placeOf 8 = .ok (.ifCond .lt 29, 3) := by decide +kernel
theorem dX7_placeOf_11 : decode cX7_placeOf 11 = .ok (.iload_n 2, 1) := by decide +kernel
theorem dX7_placeOf_12 : decode cX7_placeOf 12 = .ok (.aload_n 0, 1) := by decide +kernel
theorem dX7_placeOf_13 : decode cX7_placeOf 13 = .ok (.iload_n 1, 1) := by decide +kernel
theorem dX7_placeOf_14 : decode cX7_placeOf 14 = .ok (.invokevirtual 44, 3) := by decide +kernel
theorem dX7_placeOf_17 : decode cX7_placeOf 17 = .ok (.if_icmp .ge 20, 3) := by decide +kernel
theorem dX7_placeOf_20 : decode cX7_placeOf 20 = .ok (.iload_n 3, 1) := by decide +kernel
theorem dX7_placeOf_21 : decode cX7_placeOf 21 = .ok (.ifCond .lt 16, 3) := by decide +kernel
theorem dX7_placeOf_24 : decode cX7_placeOf 24 = .ok (.iload_n 3, 1) := by decide +kernel
theorem dX7_placeOf_25 : decode cX7_placeOf 25 = .ok (.aload_n 0, 1) := by decide +kernel
theorem dX7_placeOf_26 : decode cX7_placeOf 26 = .ok (.getfield 18, 3) := by decide +kernel
theorem dX7_placeOf_29 : decode cX7_placeOf 29 = .ok (.arraylength, 1) := by decide +kernel
theorem dX7_placeOf_30 : decode cX7_placeOf 30 = .ok (.if_icmp .ge 7, 3) := by decide +kernel
theorem dX7_placeOf_33 : decode cX7_placeOf 33 = .ok (.iload_n 3, 1) := by decide +kernel
theorem dX7_placeOf_34 : decode cX7_placeOf 34 = .ok (.goto 4, 3) := by decide +kernel
theorem dX7_placeOf_37 : decode cX7_placeOf 37 = .ok (.iconst (-1), 1) := by decide +kernel
theorem dX7_placeOf_38 : decode cX7_placeOf 38 = .ok (.ireturn, 1) := by decide +kernel
theorem dX7_lowestBits_0 : decode cX7_lowestBits 0 = .ok (.iload_n 1, 1) := by decide +kernel
theorem dX7_lowestBits_1 : decode cX7_lowestBits 1 = .ok (.bipush 16, 2) := by decide +kernel
theorem dX7_lowestBits_3 : decode cX7_lowestBits 3 = .ok (.idiv, 1) := by decide +kernel
theorem dX7_lowestBits_4 : decode cX7_lowestBits 4 = .ok (.istore 4, 2) := by decide +kernel
theorem dX7_lowestBits_6 : decode cX7_lowestBits 6 = .ok (.iload 4, 2) := by decide +kernel
theorem dX7_lowestBits_8 : decode cX7_lowestBits 8 = .ok (.ifCond .lt 23, 3) := by decide +kernel
theorem dX7_lowestBits_11 : decode cX7_lowestBits 11 = .ok (.iload 4, 2) := by decide +kernel
theorem dX7_lowestBits_13 : decode cX7_lowestBits 13 = .ok (.aload_n 0, 1) := by decide +kernel
theorem dX7_lowestBits_14 : decode cX7_lowestBits 14 = .ok (.getfield 11, 3) := by decide +kernel
theorem dX7_lowestBits_17 : decode cX7_lowestBits 17 = .ok (.arraylength, 1) := by decide +kernel
theorem dX7_lowestBits_18 : decode cX7_lowestBits 18 = .ok (.if_icmp .ge 13, 3) := by decide +kernel
theorem dX7_lowestBits_21 : decode cX7_lowestBits 21 = .ok (.aload_n 0, 1) := by decide +kernel
theorem dX7_lowestBits_22 : decode cX7_lowestBits 22 = .ok (.getfield 11, 3) := by decide +kernel
theorem dX7_lowestBits_25 : decode cX7_lowestBits 25 = .ok (.iload 4, 2) := by decide +kernel
theorem dX7_lowestBits_27 : decode cX7_lowestBits 27 = .ok (.iaload, 1) := by decide +kernel
theorem dX7_lowestBits_28 : decode cX7_lowestBits 28 = .ok (.goto 4, 3) := by decide +kernel
theorem dX7_lowestBits_31 : decode cX7_lowestBits 31 = .ok (.iconst 2, 1) := by decide +kernel
theorem dX7_lowestBits_32 : decode cX7_lowestBits 32 = .ok (.istore 5, 2) := by decide +kernel
theorem dX7_lowestBits_34 : decode cX7_lowestBits 34 = .ok (.iload 5, 2) := by decide +kernel
theorem dX7_lowestBits_36 : decode cX7_lowestBits 36 = .ok (.ifCond .ne 8, 3) := by decide +kernel
theorem dX7_lowestBits_39 : decode cX7_lowestBits 39 = .ok (.lload_n 2, 1) := by decide +kernel
theorem dX7_lowestBits_40 : decode cX7_lowestBits 40 = .ok (.l2i, 1) := by decide +kernel
theorem dX7_lowestBits_41 : decode cX7_lowestBits 41 = .ok (.i2s, 1) := by decide +kernel
theorem dX7_lowestBits_42 : decode cX7_lowestBits 42 = .ok (.i2l, 1) := by decide +kernel
theorem dX7_lowestBits_43 : decode cX7_lowestBits 43 = .ok (.lreturn, 1) := by decide +kernel
theorem dX7_lowestBits_44 : decode cX7_lowestBits 44 = .ok (.iload 5, 2) := by decide +kernel
theorem dX7_lowestBits_46 : decode cX7_lowestBits 46 = .ok (.iconst 1, 1) := by decide +kernel
theorem dX7_lowestBits_47 : decode cX7_lowestBits 47 = .ok (.if_icmp .ne 9, 3) := by decide +kernel
theorem dX7_lowestBits_50 : decode cX7_lowestBits 50 = .ok (.lload_n 2, 1) := by decide +kernel
theorem dX7_lowestBits_51 : decode cX7_lowestBits 51 = .ok (.l2i, 1) := by decide +kernel
theorem dX7_lowestBits_52 : decode cX7_lowestBits 52 = .ok (.i2l, 1) := by decide +kernel
theorem dX7_lowestBits_53 : decode cX7_lowestBits 53 = .ok (.goto 4, 3) := by decide +kernel
theorem dX7_lowestBits_56 : decode cX7_lowestBits 56 = .ok (.lload_n 2, 1) := by decide +kernel
theorem dX7_lowestBits_57 : decode cX7_lowestBits 57 = .ok (.lreturn, 1) := by decide +kernel
theorem dX8_init_0 : decode cX8_init 0 = .ok (.aload_n 0, 1) := by decide +kernel
theorem dX8_init_1 : decode cX8_init 1 = .ok (.invokespecial 1, 3) := by decide +kernel
theorem dX8_init_4 : decode cX8_init 4 = .ok (.aload_n 0, 1) := by decide +kernel
theorem dX8_init_5 : decode cX8_init 5 = .ok (.new 7, 3) := by decide +kernel
theorem dX8_init_8 : decode cX8_init 8 = .ok (.dup, 1) := by decide +kernel
theorem dX8_init_9 : decode cX8_init 9 = .ok (.invokespecial 9, 3) := by decide +kernel
theorem dX8_init_12 : decode cX8_init 12 = .ok (.putfield 10, 3) := by decide +kernel
theorem dX8_init_15 : decode cX8_init 15 = .ok (.aload_n 0, 1) := by decide +kernel
theorem dX8_init_16 : decode cX8_init 16 = .ok (.new 16, 3) := by decide +kernel
theorem dX8_init_19 : decode cX8_init 19 = .ok (.dup, 1) := by decide +kernel
theorem dX8_init_20 : decode cX8_init 20 = .ok (.invokespecial 18, 3) := by decide +kernel
theorem dX8_init_23 : decode cX8_init 23 = .ok (.putfield 19, 3) := by decide +kernel
theorem dX8_init_26 : decode cX8_init 26 = .ok (.aload_n 0, 1) := by decide +kernel
theorem dX8_init_27 : decode cX8_init 27 = .ok (.new 23, 3) := by decide +kernel
theorem dX8_init_30 : decode cX8_init 30 = .ok (.dup, 1) := by decide +kernel
theorem dX8_init_31 : decode cX8_init 31 = .ok (.invokespecial 25, 3) := by decide +kernel
theorem dX8_init_34 : decode cX8_init 34 = .ok (.putfield 26, 3) := by decide +kernel
theorem dX8_init_37 : decode cX8_init 37 = .ok (.aload_n 0, 1) := by decide +kernel
theorem dX8_init_38 : decode cX8_init 38 = .ok (.new 30, 3) := by decide +kernel
theorem dX8_init_41 : decode cX8_init 41 = .ok (.dup, 1) := by decide +kernel
theorem dX8_init_42 : decode cX8_init 42 = .ok (.invokespecial 32, 3) := by decide +kernel
theorem dX8_init_45 : decode cX8_init 45 = .ok (.putfield 33, 3) := by decide +kernel
theorem dX8_init_48 : decode cX8_init 48 = .ok (.aload_n 0, 1) := by decide +kernel
theorem dX8_init_49 : decode cX8_init 49 = .ok (.new 37, 3) := by decide +kernel
theorem dX8_init_52 : decode cX8_init 52 = .ok (.dup, 1) := by decide +kernel
theorem dX8_init_53 : decode cX8_init 53 = .ok (.invokespecial 39, 3) := by decide +kernel
theorem dX8_init_56 : decode cX8_init 56 = .ok (.putfield 40, 3) := by decide +kernel
theorem dX8_init_59 : decode cX8_init 59 = .ok (.aload_n 0, 1) := by decide +kernel
theorem dX8_init_60 : decode cX8_init 60 = .ok (.bipush 40, 2) := by decide +kernel
theorem dX8_init_62 : decode cX8_init 62 = .ok (.anewarray 44, 3) := by decide +kernel
theorem dX8_init_65 : decode cX8_init 65 = .ok (.putfield 46, 3) := by decide +kernel
theorem dX8_init_68 : decode cX8_init 68 = .ok (.aload_n 0, 1) := by decide +kernel
theorem dX8_init_69 : decode cX8_init 69 = .ok (.sipush 400, 3) := by decide +kernel
theorem dX8_init_72 : decode cX8_init 72 = .ok (.anewarray 50, 3) := by decide +kernel
theorem dX8_init_75 : decode cX8_init 75 = .ok (.putfield 52, 3) := by decide +kernel
theorem dX8_init_78 : decode cX8_init 78 = .ok (.aload_n 0, 1) := by decide +kernel
theorem dX8_init_79 : decode cX8_init 79 = .ok (.bipush 24, 2) := by decide +kernel
theorem dX8_init_81 : decode cX8_init 81 = .ok (.newarray .int, 2) := by decide +kernel
theorem dX8_init_83 : decode cX8_init 83 = .ok (.putfield 56, 3) := by decide +kernel
theorem dX8_init_86 : decode cX8_init 86 = .ok (.aload_n 0, 1) := by decide +kernel
theorem dX8_init_87 : decode cX8_init 87 = .ok (.bipush 24, 2) := by decide +kernel
theorem dX8_init_89 : decode cX8_init 89 = .ok (.newarray .int, 2) := by decide +kernel
theorem dX8_init_91 : decode cX8_init 91 = .ok (.putfield 60, 3) := by decide +kernel
theorem dX8_init_94 : decode cX8_init 94 = .ok (.aload_n 0, 1) := by decide +kernel
theorem dX8_init_95 : decode cX8_init 95 = .ok (.iconst 0, 1) := by decide +kernel
theorem dX8_init_96 : decode cX8_init 96 = .ok (.putfield 63, 3) := by decide +kernel
theorem dX8_init_99 : decode cX8_init 99 = .ok (.aload_n 0, 1) := by decide +kernel
theorem dX8_init_100 : decode cX8_init 100 = .ok (.iconst 0, 1) := by decide +kernel
theorem dX8_init_101 : decode cX8_init 101 = .ok (.putfield 67, 3) := by decide +kernel
theorem dX8_init_104 : decode cX8_init 104 = .ok (.aload_n 0, 1) := by decide +kernel
theorem dX8_init_105 : decode cX8_init 105 = .ok (.iconst 0, 1) := by decide +kernel
theorem dX8_init_106 : decode cX8_init 106 = .ok (.putfield 70, 3) := by decide +kernel
theorem dX8_init_109 : decode cX8_init 109 = .ok (.aload_n 0, 1) := by decide +kernel
theorem dX8_init_110 : decode cX8_init 110 = .ok (.iconst 0, 1) := by decide +kernel
theorem dX8_init_111 : decode cX8_init 111 = .ok (.putfield 73, 3) := by decide +kernel
theorem dX8_init_114 : decode cX8_init 114 = .ok (.aload_n 0, 1) := by decide +kernel
theorem dX8_init_115 : decode cX8_init 115 = .ok (.lconst 0, 1) := by decide +kernel
theorem dX8_init_116 : decode cX8_init 116 = .ok (.putfield 76, 3) := by decide +kernel
theorem dX8_init_119 : decode cX8_init 119 = .ok (.return_, 1) := by decide +kernel
theorem dX8_sheet_0 : decode cX8_sheet 0 = .ok (.iload_n 1, 1) := by decide +kernel
theorem dX8_sheet_1 : decode cX8_sheet 1 = .ok (.invokestatic 80, 3) := by decide +kernel
theorem dX8_sheet_4 : decode cX8_sheet 4 = .ok (.ifCond .ne 13, 3) := by decide +kernel
theorem dX8_sheet_7 : decode cX8_sheet 7 = .ok (.new 84, 3) := by decide +kernel
theorem dX8_sheet_10 : decode cX8_sheet 10 = .ok (.dup, 1) := by decide +kernel
theorem dX8_sheet_11 : decode cX8_sheet 11 = .ok (.ldc 86, 2) := by decide +kernel
theorem dX8_sheet_13 : decode cX8_sheet 13 = .ok (.invokespecial 88, 3) := by decide +kernel
theorem dX8_sheet_16 : decode cX8_sheet 16 = .ok (.athrow, 1) := by decide +kernel
theorem dX8_sheet_17 : decode cX8_sheet 17 = .ok (.aload_n 0, 1) := by decide +kernel
theorem dX8_sheet_18 : decode cX8_sheet 18 = .ok (.getfield 10, 3) := by decide +kernel
theorem dX8_sheet_21 : decode cX8_sheet 21 = .ok (.iload_n 1, 1) := by decide +kernel
theorem dX8_sheet_22 : decode cX8_sheet 22 = .ok (.invokevirtual 91, 3) := by decide +kernel
theorem dX8_sheet_25 : decode cX8_sheet 25 = .ok (.istore_n 2, 1) := by decide +kernel
theorem dX8_sheet_26 : decode cX8_sheet 26 = .ok (.iload_n 2, 1) := by decide +kernel
theorem dX8_sheet_27 : decode cX8_sheet 27 = .ok (.iconst (-1), 1) := by decide +kernel
theorem dX8_sheet_28 : decode cX8_sheet 28 = .ok (.if_icmp .ne 13, 3) := by decide +kernel
theorem dX8_sheet_31 : decode cX8_sheet 31 = .ok (.new 95, 3) := by decide +kernel
theorem dX8_sheet_34 : decode cX8_sheet 34 = .ok (.dup, 1) := by decide +kernel
theorem dX8_sheet_35 : decode cX8_sheet 35 = .ok (.ldc 97, 2) := by decide +kernel
theorem dX8_sheet_37 : decode cX8_sheet 37 = .ok (.invokespecial 99, 3) := by decide +kernel
theorem dX8_sheet_40 : decode cX8_sheet 40 = .ok (.athrow, 1) := by decide +kernel
theorem dX8_sheet_41 : decode cX8_sheet 41 = .ok (.iload_n 2, 1) := by decide +kernel
theorem dX8_sheet_42 : decode cX8_sheet 42 = .ok (.ireturn, 1) := by decide +kernel
theorem dX8_row_0 : decode cX8_row 0 = .ok (.aload_n 0, 1) := by decide +kernel
theorem dX8_row_1 : decode cX8_row 1 = .ok (.iload_n 1, 1) := by decide +kernel
theorem dX8_row_2 : decode cX8_row 2 = .ok (.iload_n 2, 1) := by decide +kernel
theorem dX8_row_3 : decode cX8_row 3 = .ok (.invokevirtual 100, 3) := by decide +kernel
theorem dX8_row_6 : decode cX8_row 6 = .ok (.istore 4, 2) := by decide +kernel
theorem dX8_row_8 : decode cX8_row 8 = .ok (.iload_n 3, 1) := by decide +kernel
theorem dX8_row_9 : decode cX8_row 9 = .ok (.ifCond .lt 9, 3) := by decide +kernel
theorem dX8_row_12 : decode cX8_row 12 = .ok (.iload_n 3, 1) := by decide +kernel
theorem dX8_row_13 : decode cX8_row 13 = .ok (.bipush 12, 2) := by decide +kernel
theorem dX8_row_15 : decode cX8_row 15 = .ok (.if_icmp .le 5, 3) := by decide +kernel
theorem dX8_row_18 : decode cX8_row 18 = .ok (.iconst (-1), 1) := by decide +kernel
theorem dX8_row_19 : decode cX8_row 19 = .ok (.ireturn, 1) := by decide +kernel
theorem dX8_row_20 : decode cX8_row 20 = .ok (.aload_n 0, 1) := by decide +kernel
theorem dX8_row_21 : decode cX8_row 21 = .ok (.getfield 10, 3) := by decide +kernel
theorem dX8_row_24 : decode cX8_row 24 = .ok (.iload 4, 2) := by decide +kernel
theorem dX8_row_26 : decode cX8_row 26 = .ok (.iload_n 3, 1) := by decide +kernel
theorem dX8_row_27 : decode cX8_row 27 = .ok (.invokevirtual 104, 3) := by decide +kernel
theorem dX8_row_30 : decode cX8_row 30 = .ok (.iload_n 3, 1) := by decide +kernel
theorem dX8_row_31 : decode cX8_row 31 = .ok (.ireturn, 1) := by decide +kernel
theorem dX8_put_0 : decode cX8_put 0 = .ok (.aload_n 0, 1) := by decide +kernel
theorem dX8_put_1 : decode cX8_put 1 = .ok (.iload_n 1, 1) := by decide +kernel
theorem dX8_put_2 : decode cX8_put 2 = .ok (.iload_n 2, 1) := by decide +kernel
theorem dX8_put_3 : decode cX8_put 3 = .ok (.invokevirtual 100, 3) := by decide +kernel
theorem dX8_put_6 : decode cX8_put 6 = .ok (.istore 6, 2) := by decide +kernel
theorem dX8_put_8 : decode cX8_put 8 = .ok (.aload_n 0, 1) := by decide +kernel
theorem dX8_put_9 : decode cX8_put 9 = .ok (.getfield 10, 3) := by decide +kernel
theorem dX8_put_12 : decode cX8_put 12 = .ok (.iload 6, 2) := by decide +kernel
theorem dX8_put_14 : decode cX8_put 14 = .ok (.invokevirtual 108, 3) := by decide +kernel
theorem dX8_put_17 : decode cX8_put 17 = .ok (.iconst (-1), 1) := by decide +kernel
theorem dX8_put_18 : decode cX8_put 18 = .ok (.if_icmp .ne 5, 3) := by decide +kernel
theorem dX8_put_21 : decode cX8_put 21 = .ok (.iconst (-1), 1) := by decide +kernel
theorem dX8_put_22 : decode cX8_put 22 = .ok (.ireturn, 1) := by decide +kernel
theorem dX8_put_23 : decode cX8_put 23 = .ok (.aload_n 0, 1) := by decide +kernel
theorem dX8_put_24 : decode cX8_put 24 = .ok (.getfield 10, 3) := by decide +kernel
theorem dX8_put_27 : decode cX8_put 27 = .ok (.iload 6, 2) := by decide +kernel
theorem dX8_put_29 : decode cX8_put 29 = .ok (.iload_n 3, 1) := by decide +kernel
theorem dX8_put_30 : decode cX8_put 30 = .ok (.lload 4, 2) := by decide +kernel
theorem dX8_put_32 : decode cX8_put 32 = .ok (.invokevirtual 111, 3) := by decide +kernel
theorem dX8_put_35 : decode cX8_put 35 = .ok (.ifCond .eq 7, 3) := by decide +kernel
theorem dX8_put_38 : decode cX8_put 38 = .ok (.iconst 1, 1) := by decide +kernel
theorem dX8_put_39 : decode cX8_put 39 = .ok (.goto 5, 3) := by decide +kernel
theorem dX8_put_42 : decode cX8_put 42 = .ok (.bipush (-2), 2) := by decide +kernel
theorem dX8_put_44 : decode cX8_put 44 = .ok (.ireturn, 1) := by decide +kernel
theorem dX8_tear_0 : decode cX8_tear 0 = .ok (.aload_n 0, 1) := by decide +kernel
theorem dX8_tear_1 : decode cX8_tear 1 = .ok (.iload_n 1, 1) := by decide +kernel
theorem dX8_tear_2 : decode cX8_tear 2 = .ok (.iload_n 2, 1) := by decide +kernel
theorem dX8_tear_3 : decode cX8_tear 3 = .ok (.invokevirtual 100, 3) := by decide +kernel
theorem dX8_tear_6 : decode cX8_tear 6 = .ok (.istore_n 3, 1) := by decide +kernel
theorem dX8_tear_7 : decode cX8_tear 7 = .ok (.aload_n 0, 1) := by decide +kernel
theorem dX8_tear_8 : decode cX8_tear 8 = .ok (.getfield 10, 3) := by decide +kernel
theorem dX8_tear_11 : decode cX8_tear 11 = .ok (.iload_n 3, 1) := by decide +kernel
theorem dX8_tear_12 : decode cX8_tear 12 = .ok (.invokevirtual 108, 3) := by decide +kernel
theorem dX8_tear_15 : decode cX8_tear 15 = .ok (.iconst (-1), 1) := by decide +kernel
theorem dX8_tear_16 : decode cX8_tear 16 = .ok (.if_icmp .ne 5, 3) := by decide +kernel
theorem dX8_tear_19 : decode cX8_tear 19 = .ok (.iconst 0, 1) := by decide +kernel
theorem dX8_tear_20 : decode cX8_tear 20 = .ok (.ireturn, 1) := by decide +kernel
theorem dX8_tear_21 : decode cX8_tear 21 = .ok (.aload_n 0, 1) := by decide +kernel
theorem dX8_tear_22 : decode cX8_tear 22 = .ok (.getfield 10, 3) := by decide +kernel
theorem dX8_tear_25 : decode cX8_tear 25 = .ok (.iload_n 3, 1) := by decide +kernel
theorem dX8_tear_26 : decode cX8_tear 26 = .ok (.iconst (-1), 1) := by decide +kernel
theorem dX8_tear_27 : decode cX8_tear 27 = .ok (.invokevirtual 104, 3) := by decide +kernel
theorem dX8_tear_30 : decode cX8_tear 30 = .ok (.iconst 1, 1) := by decide +kernel
theorem dX8_tear_31 : decode cX8_tear 31 = .ok (.ireturn, 1) := by decide +kernel
theorem dX8_slotOf_0 : decode cX8_slotOf 0 = .ok (.aload_n 0, 1) := by decide +kernel
theorem dX8_slotOf_1 : decode cX8_slotOf 1 = .ok (.getfield 10, 3) := by decide +kernel
theorem dX8_slotOf_4 : decode cX8_slotOf 4 = .ok (.iload_n 1, 1) := by decide +kernel
theorem dX8_slotOf_5 : decode cX8_slotOf 5 = .ok (.iload_n 2, 1) := by decide +kernel
theorem dX8_slotOf_6 : decode cX8_slotOf 6 = .ok (.invokevirtual 115, 3) := by decide +kernel
theorem dX8_slotOf_9 : decode cX8_slotOf 9 = .ok (.istore_n 3, 1) := by decide +kernel
theorem dX8_slotOf_10 : decode cX8_slotOf 10 = .ok (.iload_n 3, 1) := by decide +kernel
theorem dX8_slotOf_11 : decode cX8_slotOf 11 = .ok (.iconst (-1), 1) := by decide +kernel
theorem dX8_slotOf_12 : decode cX8_slotOf 12 = .ok (.if_icmp .ne 13, 3) := by decide +kernel
theorem dX8_slotOf_15 : decode cX8_slotOf 15 = .ok (.new 118, 3) := by decide +kernel
theorem dX8_slotOf_18 : decode cX8_slotOf 18 = .ok (.dup, 1) := by decide +kernel
theorem dX8_slotOf_19 : decode cX8_slotOf 19 = .ok (.ldc 120, 2) := by decide +kernel
theorem dX8_slotOf_21 : decode cX8_slotOf 21 = .ok (.invokespecial 122, 3) := by decide +kernel
theorem dX8_slotOf_24 : decode cX8_slotOf 24 = .ok (.athrow, 1) := by decide +kernel
theorem dX8_slotOf_25 : decode cX8_slotOf 25 = .ok (.iload_n 3, 1) := by decide +kernel
theorem dX8_slotOf_26 : decode cX8_slotOf 26 = .ok (.ireturn, 1) := by decide +kernel
theorem dX8_feed_0 : decode cX8_feed 0 = .ok (.aload_n 0, 1) := by decide +kernel
theorem dX8_feed_1 : decode cX8_feed 1 = .ok (.getfield 19, 3) := by decide +kernel
theorem dX8_feed_4 : decode cX8_feed 4 = .ok (.invokevirtual 123, 3) := by decide +kernel
theorem dX8_feed_7 : decode cX8_feed 7 = .ok (.ifCond .ne 5, 3) := by decide +kernel
theorem dX8_feed_10 : decode cX8_feed 10 = .ok (.iconst (-1), 1) := by decide +kernel
theorem dX8_feed_11 : decode cX8_feed 11 = .ok (.ireturn, 1) := by decide +kernel
theorem dX8_feed_12 : decode cX8_feed 12 = .ok (.aload_n 0, 1) := by decide +kernel
theorem dX8_feed_13 : decode cX8_feed 13 = .ok (.getfield 19, 3) := by decide +kernel
theorem dX8_feed_16 : decode cX8_feed 16 = .ok (.iload_n 1, 1) := by decide +kernel
theorem dX8_feed_17 : decode cX8_feed 17 = .ok (.invokevirtual 127, 3) := by decide +kernel
theorem dX8_feed_20 : decode cX8_feed 20 = .ok (.aload_n 0, 1) := by decide +kernel
theorem dX8_feed_21 : decode cX8_feed 21 = .ok (.getfield 19, 3) := by decide +kernel
theorem dX8_feed_24 : decode cX8_feed 24 = .ok (.iload_n 2, 1) := by decide +kernel
theorem dX8_feed_25 : decode cX8_feed 25 = .ok (.invokevirtual 127, 3) := by decide +kernel
theorem dX8_feed_28 : decode cX8_feed 28 = .ok (.aload_n 0, 1) := by decide +kernel
theorem dX8_feed_29 : decode cX8_feed 29 = .ok (.getfield 19, 3) := by decide +kernel
theorem dX8_feed_32 : decode cX8_feed 32 = .ok (.iload_n 3, 1) := by decide +kernel
theorem dX8_feed_33 : decode cX8_feed 33 = .ok (.invokevirtual 127, 3) := by decide +kernel
theorem dX8_feed_36 : decode cX8_feed 36 = .ok (.aload_n 0, 1) := by decide +kernel
theorem dX8_feed_37 : decode cX8_feed 37 = .ok (.getfield 19, 3) := by decide +kernel
theorem dX8_feed_40 : decode cX8_feed 40 = .ok (.iload 4, 2) := by decide +kernel
theorem dX8_feed_42 : decode cX8_feed 42 = .ok (.invokevirtual 127, 3) := by decide +kernel
theorem dX8_feed_45 : decode cX8_feed 45 = .ok (.aload_n 0, 1) := by decide +kernel
theorem dX8_feed_46 : decode cX8_feed 46 = .ok (.getfield 19, 3) := by decide +kernel
theorem dX8_feed_49 : decode cX8_feed 49 = .ok (.iload 5, 2) := by decide +kernel
theorem dX8_feed_51 : decode cX8_feed 51 = .ok (.invokevirtual 127, 3) := by decide +kernel
theorem dX8_feed_54 : decode cX8_feed 54 = .ok (.aload_n 0, 1) := by decide +kernel
theorem dX8_feed_55 : decode cX8_feed 55 = .ok (.getfield 19, 3) := by decide +kernel
theorem dX8_feed_58 : decode cX8_feed 58 = .ok (.invokevirtual 131, 3) := by decide +kernel
theorem dX8_feed_61 : decode cX8_feed 61 = .ok (.ireturn, 1) := by decide +kernel
theorem dX8_fit_0 : decode cX8_fit 0 = .ok (.iload_n 1, 1) := by decide +kernel
theorem dX8_fit_1 : decode cX8_fit 1 = .ok (.ifCond .lt 14, 3) := by decide +kernel
theorem dX8_fit_4 : decode cX8_fit 4 = .ok (.iload_n 1, 1) := by decide +kernel
theorem dX8_fit_5 : decode cX8_fit 5 = .ok (.aload_n 0, 1) := by decide +kernel
theorem dX8_fit_6 : decode cX8_fit 6 = .ok (.getfield 19, 3) := by decide +kernel
theorem dX8_fit_9 : decode cX8_fit 9 = .ok (.invokevirtual 131, 3) := by decide +kernel
theorem dX8_fit_12 : decode cX8_fit 12 = .ok (.if_icmp .le 13, 3) := by decide +kernel
theorem dX8_fit_15 : decode cX8_fit 15 = .ok (.new 84, 3) := by decide +kernel
theorem dX8_fit_18 : decode cX8_fit 18 = .ok (.dup, 1) := by decide +kernel
theorem dX8_fit_19 : decode cX8_fit 19 = .ok (.ldc 135, 2) := by decide +kernel
theorem dX8_fit_21 : decode cX8_fit 21 = .ok (.invokespecial 88, 3) := by decide +kernel
theorem dX8_fit_24 : decode cX8_fit 24 = .ok (.athrow, 1) := by decide +kernel
theorem dX8_fit_25 : decode cX8_fit 25 = .ok (.aload_n 0, 1) := by decide +kernel
theorem dX8_fit_26 : decode cX8_fit 26 = .ok (.getfield 19, 3) := by decide +kernel
theorem dX8_fit_29 : decode cX8_fit 29 = .ok (.iload_n 1, 1) := by decide +kernel
theorem dX8_fit_30 : decode cX8_fit 30 = .ok (.invokevirtual 137, 3) := by decide +kernel
theorem dX8_fit_33 : decode cX8_fit 33 = .ok (.ireturn, 1) := by decide +kernel
theorem dX8_says_0 : decode cX8_says 0 = .ok (.iload_n 1, 1) := by decide +kernel
theorem dX8_says_1 : decode cX8_says 1 = .ok (.ifCond .lt 14, 3) := by decide +kernel
theorem dX8_says_4 : decode cX8_says 4 = .ok (.iload_n 1, 1) := by decide +kernel
theorem dX8_says_5 : decode cX8_says 5 = .ok (.aload_n 0, 1) := by decide +kernel
theorem dX8_says_6 : decode cX8_says 6 = .ok (.getfield 19, 3) := by decide +kernel
theorem dX8_says_9 : decode cX8_says 9 = .ok (.invokevirtual 140, 3) := by decide +kernel
theorem dX8_says_12 : decode cX8_says 12 = .ok (.if_icmp .lt 13, 3) := by decide +kernel
theorem dX8_says_15 : decode cX8_says 15 = .ok (.new 118, 3) := by decide +kernel
theorem dX8_says_18 : decode cX8_says 18 = .ok (.dup, 1) := by decide +kernel
theorem dX8_says_19 : decode cX8_says 19 = .ok (.ldc 143, 2) := by decide +kernel
theorem dX8_says_21 : decode cX8_says 21 = .ok (.invokespecial 122, 3) := by decide +kernel
theorem dX8_says_24 : decode cX8_says 24 = .ok (.athrow, 1) := by decide +kernel
theorem dX8_says_25 : decode cX8_says 25 = .ok (.aload_n 0, 1) := by decide +kernel
theorem dX8_says_26 : decode cX8_says 26 = .ok (.getfield 19, 3) := by decide +kernel
theorem dX8_says_29 : decode cX8_says 29 = .ok (.iload_n 1, 1) := by decide +kernel
theorem dX8_says_30 : decode cX8_says 30 = .ok (.iload_n 2, 1) := by decide +kernel
theorem dX8_says_31 : decode cX8_says 31 = .ok (.iload_n 3, 1) := by decide +kernel
theorem dX8_says_32 : decode cX8_says 32 = .ok (.iload 4, 2) := by decide +kernel
theorem dX8_says_34 : decode cX8_says 34 = .ok (.invokevirtual 145, 3) := by decide +kernel
theorem dX8_says_37 : decode cX8_says 37 = .ok (.ireturn, 1) := by decide +kernel
theorem dX8_part_0 : decode cX8_part 0 = .ok (.iload_n 1, 1) := by decide +kernel
theorem dX8_part_1 : decode cX8_part 1 = .ok (.invokestatic 149, 3) := by decide +kernel
theorem dX8_part_4 : decode cX8_part 4 = .ok (.ifCond .ne 13, 3) := by decide +kernel
theorem dX8_part_7 : decode cX8_part 7 = .ok (.new 84, 3) := by decide +kernel
theorem dX8_part_10 : decode cX8_part 10 = .ok (.dup, 1) := by decide +kernel
theorem dX8_part_11 : decode cX8_part 11 = .ok (.ldc 152, 2) := by decide +kernel
theorem dX8_part_13 : decode cX8_part 13 = .ok (.invokespecial 88, 3) := by decide +kernel
theorem dX8_part_16 : decode cX8_part 16 = .ok (.athrow, 1) := by decide +kernel
theorem dX8_part_17 : decode cX8_part 17 = .ok (.aload_n 0, 1) := by decide +kernel
theorem dX8_part_18 : decode cX8_part 18 = .ok (.iload_n 2, 1) := by decide +kernel
theorem dX8_part_19 : decode cX8_part 19 = .ok (.iload_n 3, 1) := by decide +kernel
theorem dX8_part_20 : decode cX8_part 20 = .ok (.invokevirtual 100, 3) := by decide +kernel
theorem dX8_part_23 : decode cX8_part 23 = .ok (.istore 4, 2) := by decide +kernel
theorem dX8_part_25 : decode cX8_part 25 = .ok (.aload_n 0, 1) := by decide +kernel
theorem dX8_part_26 : decode cX8_part 26 = .ok (.getfield 10, 3) := by decide +kernel
theorem dX8_part_29 : decode cX8_part 29 = .ok (.iload 4, 2) := by decide +kernel
theorem dX8_part_31 : decode cX8_part 31 = .ok (.invokevirtual 108, 3) := by decide +kernel
theorem dX8_part_34 : decode cX8_part 34 = .ok (.istore 5, 2) := by decide +kernel
theorem dX8_part_36 : decode cX8_part 36 = .ok (.iload 5, 2) := by decide +kernel
theorem dX8_part_38 : decode cX8_part 38 = .ok (.iconst (-1), 1) := by decide +kernel
theorem dX8_part_39 : decode cX8_part 39 = .ok (.if_icmp .ne 5, 3) := by decide +kernel
theorem dX8_part_42 : decode cX8_part 42 = .ok (.iconst (-1), 1) := by decide +kernel
theorem dX8_part_43 : decode cX8_part 43 = .ok (.ireturn, 1) := by decide +kernel
theorem dX8_part_44 : decode cX8_part 44 = .ok (.iload 5, 2) := by decide +kernel
theorem dX8_part_46 : decode cX8_part 46 = .ok (.bipush 7, 2) := by decide +kernel
theorem dX8_part_48 : decode cX8_part 48 = .ok (.if_icmp .ge 6, 3) := by decide +kernel
theorem dX8_part_51 : decode cX8_part 51 = .ok (.bipush (-2), 2) := by decide +kernel
theorem dX8_part_53 : decode cX8_part 53 = .ok (.ireturn, 1) := by decide +kernel
theorem dX8_part_54 : decode cX8_part 54 = .ok (.aload_n 0, 1) := by decide +kernel
theorem dX8_part_55 : decode cX8_part 55 = .ok (.iload_n 1, 1) := by decide +kernel
theorem dX8_part_56 : decode cX8_part 56 = .ok (.iload 4, 2) := by decide +kernel
theorem dX8_part_58 : decode cX8_part 58 = .ok (.invokevirtual 154, 3) := by decide +kernel
theorem dX8_part_61 : decode cX8_part 61 = .ok (.ifCond .eq 6, 3) := by decide +kernel
theorem dX8_part_64 : decode cX8_part 64 = .ok (.bipush (-3), 2) := by decide +kernel
theorem dX8_part_66 : decode cX8_part 66 = .ok (.ireturn, 1) := by decide +kernel
theorem dX8_part_67 : decode cX8_part 67 = .ok (.aload_n 0, 1) := by decide +kernel
theorem dX8_part_68 : decode cX8_part 68 = .ok (.iload_n 1, 1) := by decide +kernel
theorem dX8_part_69 : decode cX8_part 69 = .ok (.iload 4, 2) := by decide +kernel
theorem dX8_part_71 : decode cX8_part 71 = .ok (.invokevirtual 158, 3) := by decide +kernel
theorem dX8_part_74 : decode cX8_part 74 = .ok (.ifCond .eq 6, 3) := by decide +kernel
theorem dX8_part_77 : decode cX8_part 77 = .ok (.bipush (-4), 2) := by decide +kernel
theorem dX8_part_79 : decode cX8_part 79 = .ok (.ireturn, 1) := by decide +kernel
theorem dX8_part_80 : decode cX8_part 80 = .ok (.aload_n 0, 1) := by decide +kernel
theorem dX8_part_81 : decode cX8_part 81 = .ok (.getfield 26, 3) := by decide +kernel
theorem dX8_part_84 : decode cX8_part 84 = .ok (.iload_n 1, 1) := by decide +kernel
theorem dX8_part_85 : decode cX8_part 85 = .ok (.invokevirtual 161, 3) := by decide +kernel
theorem dX8_part_88 : decode cX8_part 88 = .ok (.bipush 24, 2) := by decide +kernel
theorem dX8_part_90 : decode cX8_part 90 = .ok (.if_icmp .lt 6, 3) := by decide +kernel
theorem dX8_part_93 : decode cX8_part 93 = .ok (.bipush (-5), 2) := by decide +kernel
theorem dX8_part_95 : decode cX8_part 95 = .ok (.ireturn, 1) := by decide +kernel
theorem dX8_part_96 : decode cX8_part 96 = .ok (.aload_n 0, 1) := by decide +kernel
theorem dX8_part_97 : decode cX8_part 97 = .ok (.iload_n 1, 1) := by decide +kernel
theorem dX8_part_98 : decode cX8_part 98 = .ok (.iload 4, 2) := by decide +kernel
theorem dX8_part_100 : decode cX8_part 100 = .ok (.invokevirtual 164, 3) := by decide +kernel
theorem dX8_part_103 : decode cX8_part 103 = .ok (.ireturn, 1) := by decide +kernel
theorem dX8_told_0 : decode cX8_told 0 = .ok (.iload_n 2, 1) := by decide +kernel
theorem dX8_told_1 : decode cX8_told 1 = .ok (.ifCond .lt 15, 3) := by decide +kernel
theorem dX8_told_4 : decode cX8_told 4 = .ok (.iload_n 2, 1) := by decide +kernel
theorem dX8_told_5 : decode cX8_told 5 = .ok (.aload_n 0, 1) := by decide +kernel
theorem dX8_told_6 : decode cX8_told 6 = .ok (.getfield 26, 3) := by decide +kernel
theorem dX8_told_9 : decode cX8_told 9 = .ok (.iload_n 1, 1) := by decide +kernel
theorem dX8_told_10 : decode cX8_told 10 = .ok (.invokevirtual 161, 3) := by decide +kernel
theorem dX8_told_13 : decode cX8_told 13 = .ok (.if_icmp .lt 13, 3) := by decide +kernel
theorem dX8_told_16 : decode cX8_told 16 = .ok (.new 167, 3) := by decide +kernel
theorem dX8_told_19 : decode cX8_told 19 = .ok (.dup, 1) := by decide +kernel
theorem dX8_told_20 : decode cX8_told 20 = .ok (.ldc 169, 2) := by decide +kernel
theorem dX8_told_22 : decode cX8_told 22 = .ok (.invokespecial 171, 3) := by decide +kernel
theorem dX8_told_25 : decode cX8_told 25 = .ok (.athrow, 1) := by decide +kernel
theorem dX8_told_26 : decode cX8_told 26 = .ok (.iload_n 3, 1) := by decide +kernel
theorem dX8_told_27 : decode cX8_told 27 = .ok (.ifCond .lt 9, 3) := by decide +kernel
theorem dX8_told_30 : decode cX8_told 30 = .ok (.iload_n 3, 1) := by decide +kernel
theorem dX8_told_31 : decode cX8_told 31 = .ok (.bipush 8, 2) := by decide +kernel
theorem dX8_told_33 : decode cX8_told 33 = .ok (.if_icmp .lt 13, 3) := by decide +kernel
theorem dX8_told_36 : decode cX8_told 36 = .ok (.new 84, 3) := by decide +kernel
theorem dX8_told_39 : decode cX8_told 39 = .ok (.dup, 1) := by decide +kernel
theorem dX8_told_40 : decode cX8_told 40 = .ok (.ldc 172, 2) := by decide +kernel
theorem dX8_told_42 : decode cX8_told 42 = .ok (.invokespecial 88, 3) := by decide +kernel
theorem dX8_told_45 : decode cX8_told 45 = .ok (.athrow, 1) := by decide +kernel
theorem dX8_told_46 : decode cX8_told 46 = .ok (.aload_n 0, 1) := by decide +kernel
theorem dX8_told_47 : decode cX8_told 47 = .ok (.getfield 26, 3) := by decide +kernel
theorem dX8_told_50 : decode cX8_told 50 = .ok (.iload_n 1, 1) := by decide +kernel
theorem dX8_told_51 : decode cX8_told 51 = .ok (.iload_n 2, 1) := by decide +kernel
theorem dX8_told_52 : decode cX8_told 52 = .ok (.iload_n 3, 1) := by decide +kernel
theorem dX8_told_53 : decode cX8_told 53 = .ok (.invokevirtual 174, 3) := by decide +kernel
theorem dX8_told_56 : decode cX8_told 56 = .ok (.ireturn, 1) := by decide +kernel
theorem dX8_rowSays_0 : decode cX8_rowSays 0 = .ok (.iload_n 2, 1) := by decide +kernel
theorem dX8_rowSays_1 : decode cX8_rowSays 1 = .ok (.aload_n 0, 1) := by decide +kernel
theorem dX8_rowSays_2 : decode cX8_rowSays 2 = .ok (.getfield 10, 3) := by decide +kernel
theorem dX8_rowSays_5 : decode cX8_rowSays 5 = .ok (.iload_n 1, 1) := by decide +kernel
theorem dX8_rowSays_6 : decode cX8_rowSays 6 = .ok (.invokevirtual 108, 3) := by decide +kernel
theorem dX8_rowSays_9 : decode cX8_rowSays 9 = .ok (.if_icmp .ge 15, 3) := by decide +kernel
theorem dX8_rowSays_12 : decode cX8_rowSays 12 = .ok (.aload_n 0, 1) := by decide +kernel
theorem dX8_rowSays_13 : decode cX8_rowSays 13 = .ok (.getfield 10, 3) := by decide +kernel
theorem dX8_rowSays_16 : decode cX8_rowSays 16 = .ok (.iload_n 1, 1) := by decide +kernel
theorem dX8_rowSays_17 : decode cX8_rowSays 17 = .ok (.iload_n 2, 1) := by decide +kernel
theorem dX8_rowSays_18 : decode cX8_rowSays 18 = .ok (.invokevirtual 178, 3) := by decide +kernel
theorem dX8_rowSays_21 : decode cX8_rowSays 21 = .ok (.goto 6, 3) := by decide +kernel
theorem dX8_rowSays_24 : decode cX8_rowSays 24 = .ok (.ldc2_w 182, 3) := by decide +kernel
theorem dX8_rowSays_27 : decode cX8_rowSays 27 = .ok (.lreturn, 1) := by decide +kernel
theorem dX8_hasNumberBeyond_0 : decode cX8_hasNumberBeyond 0 = .ok (.iconst 0, 1) := by decide +kernel
theorem dX8_hasNumberBeyond_1 : decode cX8_hasNumberBeyond 1 = .ok (.istore_n 3, 1) := by decide +kernel
theorem dX8_hasNumberBeyond_2 : decode cX8_hasNumberBeyond 2 = .ok (.iload_n 3, 1) := by decide +kernel
theorem dX8_hasNumberBeyond_3 : decode cX8_hasNumberBeyond 3 = .ok (.bipush 8, 2) := by decide +kernel
theorem dX8_hasNumberBeyond_5 : decode cX8_hasNumberBeyond 5 = .ok (.if_icmp .ge 26, 3) := by decide +kernel
theorem dX8_hasNumberBeyond_8 : decode cX8_hasNumberBeyond 8 = .ok (.aload_n 0, 1) := by decide +kernel
theorem dX8_hasNumberBeyond_9 : decode cX8_hasNumberBeyond 9 = .ok (.iload_n 1, 1) := by decide +kernel
theorem dX8_hasNumberBeyond_10 : decode cX8_hasNumberBeyond 10 = .ok (.iload_n 3, 1) := by decide +kernel
theorem dX8_hasNumberBeyond_11 : decode cX8_hasNumberBeyond 11 = .ok (.aload_n 0, 1) := by decide +kernel
theorem dX8_hasNumberBeyond_12 : decode cX8_hasNumberBeyond 12 = .ok (.iload_n 2, 1) := by decide +kernel
theorem dX8_hasNumberBeyond_13 : decode cX8_hasNumberBeyond 13 = .ok (.iload_n 3, 1) := by decide +kernel
theorem dX8_hasNumberBeyond_14 : decode cX8_hasNumberBeyond 14 = .ok (.invokevirtual 184, 3) := by decide +kernel
theorem dX8_hasNumberBeyond_17 : decode cX8_hasNumberBeyond 17 = .ok (.invokevirtual 187, 3) := by decide +kernel
theorem dX8_hasNumberBeyond_20 : decode cX8_hasNumberBeyond 20 = .ok (.ifCond .eq 5, 3) := by decide +kernel
theorem dX8_hasNumberBeyond_23 : decode cX8_hasNumberBeyond 23 = .ok (.iconst 1, 1) := by decide +kernel
theorem dX8_hasNumberBeyond_24 : decode cX8_hasNumberBeyond 24 = .ok (.ireturn, 1) := by decide +kernel
theorem dX8_hasNumberBeyond_25 : decode cX8_hasNumberBeyond 25 = .ok (.iinc 3 1, 3) := by decide +kernel
theorem dX8_hasNumberBeyond_28 : decode cX8_hasNumberBeyond 28 = .ok (.goto (-26), 3) := by decide +kernel
theorem dX8_hasNumberBeyond_31 : decode cX8_hasNumberBeyond 31 = .ok (.iconst 0, 1) := by decide +kernel
theorem dX8_hasNumberBeyond_32 : decode cX8_hasNumberBeyond 32 = .ok (.ireturn, 1) := by decide +kernel
theorem dX8_isBeyond_0 : decode cX8_isBeyond 0 = .ok (.iload_n 2, 1) := by decide +kernel
theorem dX8_isBeyond_1 : decode cX8_isBeyond 1 = .ok (.tableswitch 191 0 6 #[43, 63, 83, 111, 131, 151, 171], 43) := by decide +kernel
theorem dX8_isBeyond_44 : decode cX8_isBeyond 44 = .ok (.lload_n 3, 1) := by decide +kernel
theorem dX8_isBeyond_45 : decode cX8_isBeyond 45 = .ok (.lconst 0, 1) := by decide +kernel
theorem dX8_isBeyond_46 : decode cX8_isBeyond 46 = .ok (.lcmp, 1) := by decide +kernel
theorem dX8_isBeyond_47 : decode cX8_isBeyond 47 = .ok (.ifCond .lt 11, 3) := by decide +kernel
theorem dX8_isBeyond_50 : decode cX8_isBeyond 50 = .ok (.lload_n 3, 1) := by decide +kernel
theorem dX8_isBeyond_51 : decode cX8_isBeyond 51 = .ok (.ldc2_w 190, 3) := by decide +kernel
theorem dX8_isBeyond_54 : decode cX8_isBeyond 54 = .ok (.lcmp, 1) := by decide +kernel
theorem dX8_isBeyond_55 : decode cX8_isBeyond 55 = .ok (.ifCond .le 7, 3) := by decide +kernel
theorem dX8_isBeyond_58 : decode cX8_isBeyond 58 = .ok (.iconst 1, 1) := by decide +kernel
theorem dX8_isBeyond_59 : decode cX8_isBeyond 59 = .ok (.goto 4, 3) := by decide +kernel
theorem dX8_isBeyond_62 : decode cX8_isBeyond 62 = .ok (.iconst 0, 1) := by decide +kernel
theorem dX8_isBeyond_63 : decode cX8_isBeyond 63 = .ok (.ireturn, 1) := by decide +kernel
theorem dX8_isBeyond_64 : decode cX8_isBeyond 64 = .ok (.lload_n 3, 1) := by decide +kernel
theorem dX8_isBeyond_65 : decode cX8_isBeyond 65 = .ok (.lconst 0, 1) := by decide +kernel
theorem dX8_isBeyond_66 : decode cX8_isBeyond 66 = .ok (.lcmp, 1) := by decide +kernel
theorem dX8_isBeyond_67 : decode cX8_isBeyond 67 = .ok (.ifCond .lt 11, 3) := by decide +kernel
theorem dX8_isBeyond_70 : decode cX8_isBeyond 70 = .ok (.lload_n 3, 1) := by decide +kernel
theorem dX8_isBeyond_71 : decode cX8_isBeyond 71 = .ok (.ldc2_w 192, 3) := by decide +kernel
theorem dX8_isBeyond_74 : decode cX8_isBeyond 74 = .ok (.lcmp, 1) := by decide +kernel
theorem dX8_isBeyond_75 : decode cX8_isBeyond 75 = .ok (.ifCond .le 7, 3) := by decide +kernel
theorem dX8_isBeyond_78 : decode cX8_isBeyond 78 = .ok (.iconst 1, 1) := by decide +kernel
theorem dX8_isBeyond_79 : decode cX8_isBeyond 79 = .ok (.goto 4, 3) := by decide +kernel
theorem dX8_isBeyond_82 : decode cX8_isBeyond 82 = .ok (.iconst 0, 1) := by decide +kernel
theorem dX8_isBeyond_83 : decode cX8_isBeyond 83 = .ok (.ireturn, 1) := by decide +kernel
theorem dX8_isBeyond_84 : decode cX8_isBeyond 84 = .ok (.lload_n 3, 1) := by decide +kernel
theorem dX8_isBeyond_85 : decode cX8_isBeyond 85 = .ok (.ldc2_w 182, 3) := by decide +kernel
theorem dX8_isBeyond_88 : decode cX8_isBeyond 88 = .ok (.lcmp, 1) := by decide +kernel
theorem dX8_isBeyond_89 : decode cX8_isBeyond 89 = .ok (.ifCond .lt 17, 3) := by decide +kernel
theorem dX8_isBeyond_92 : decode cX8_isBeyond 92 = .ok (.lload_n 3, 1) := by decide +kernel
theorem dX8_isBeyond_93 : decode cX8_isBeyond 93 = .ok (.aload_n 0, 1) := by decide +kernel
theorem dX8_isBeyond_94 : decode cX8_isBeyond 94 = .ok (.getfield 26, 3) := by decide +kernel
theorem dX8_isBeyond_97 : decode cX8_isBeyond 97 = .ok (.iload_n 1, 1) := by decide +kernel
theorem dX8_isBeyond_98 : decode cX8_isBeyond 98 = .ok (.invokevirtual 161, 3) := by decide +kernel
theorem dX8_isBeyond_101 : decode cX8_isBeyond 101 = .ok (.i2l, 1) := by decide +kernel
theorem dX8_isBeyond_102 : decode cX8_isBeyond 102 = .ok (.lcmp, 1) := by decide +kernel
theorem dX8_isBeyond_103 : decode cX8_isBeyond 103 = .ok (.ifCond .lt 7, 3) := by decide +kernel
theorem dX8_isBeyond_106 : decode cX8_isBeyond 106 = .ok (.iconst 1, 1) := by decide +kernel
theorem dX8_isBeyond_107 : decode cX8_isBeyond 107 = .ok (.goto 4, 3) := by decide +kernel
theorem dX8_isBeyond_110 : decode cX8_isBeyond 110 = .ok (.iconst 0, 1) := by decide +kernel
theorem dX8_isBeyond_111 : decode cX8_isBeyond 111 = .ok (.ireturn, 1) := by decide +kernel
theorem dX8_isBeyond_112 : decode cX8_isBeyond 112 = .ok (.lload_n 3, 1) := by decide +kernel
theorem dX8_isBeyond_113 : decode cX8_isBeyond 113 = .ok (.lconst 1, 1) := by decide +kernel
theorem dX8_isBeyond_114 : decode cX8_isBeyond 114 = .ok (.lcmp, 1) := by decide +kernel
theorem dX8_isBeyond_115 : decode cX8_isBeyond 115 = .ok (.ifCond .lt 11, 3) := by decide +kernel
theorem dX8_isBeyond_118 : decode cX8_isBeyond 118 = .ok (.lload_n 3, 1) := by decide +kernel
theorem dX8_isBeyond_119 : decode cX8_isBeyond 119 = .ok (.ldc2_w 194, 3) := by decide +kernel
theorem dX8_isBeyond_122 : decode cX8_isBeyond 122 = .ok (.lcmp, 1) := by decide +kernel
theorem dX8_isBeyond_123 : decode cX8_isBeyond 123 = .ok (.ifCond .le 7, 3) := by decide +kernel
theorem dX8_isBeyond_126 : decode cX8_isBeyond 126 = .ok (.iconst 1, 1) := by decide +kernel
theorem dX8_isBeyond_127 : decode cX8_isBeyond 127 = .ok (.goto 4, 3) := by decide +kernel
theorem dX8_isBeyond_130 : decode cX8_isBeyond 130 = .ok (.iconst 0, 1) := by decide +kernel
theorem dX8_isBeyond_131 : decode cX8_isBeyond 131 = .ok (.ireturn, 1) := by decide +kernel
theorem dX8_isBeyond_132 : decode cX8_isBeyond 132 = .ok (.lload_n 3, 1) := by decide +kernel
theorem dX8_isBeyond_133 : decode cX8_isBeyond 133 = .ok (.lconst 1, 1) := by decide +kernel
theorem dX8_isBeyond_134 : decode cX8_isBeyond 134 = .ok (.lcmp, 1) := by decide +kernel
theorem dX8_isBeyond_135 : decode cX8_isBeyond 135 = .ok (.ifCond .lt 11, 3) := by decide +kernel
theorem dX8_isBeyond_138 : decode cX8_isBeyond 138 = .ok (.lload_n 3, 1) := by decide +kernel
theorem dX8_isBeyond_139 : decode cX8_isBeyond 139 = .ok (.ldc2_w 196, 3) := by decide +kernel
theorem dX8_isBeyond_142 : decode cX8_isBeyond 142 = .ok (.lcmp, 1) := by decide +kernel
theorem dX8_isBeyond_143 : decode cX8_isBeyond 143 = .ok (.ifCond .le 7, 3) := by decide +kernel
theorem dX8_isBeyond_146 : decode cX8_isBeyond 146 = .ok (.iconst 1, 1) := by decide +kernel
theorem dX8_isBeyond_147 : decode cX8_isBeyond 147 = .ok (.goto 4, 3) := by decide +kernel
theorem dX8_isBeyond_150 : decode cX8_isBeyond 150 = .ok (.iconst 0, 1) := by decide +kernel
theorem dX8_isBeyond_151 : decode cX8_isBeyond 151 = .ok (.ireturn, 1) := by decide +kernel
theorem dX8_isBeyond_152 : decode cX8_isBeyond 152 = .ok (.lload_n 3, 1) := by decide +kernel
theorem dX8_isBeyond_153 : decode cX8_isBeyond 153 = .ok (.lconst 0, 1) := by decide +kernel
theorem dX8_isBeyond_154 : decode cX8_isBeyond 154 = .ok (.lcmp, 1) := by decide +kernel
theorem dX8_isBeyond_155 : decode cX8_isBeyond 155 = .ok (.ifCond .lt 11, 3) := by decide +kernel
theorem dX8_isBeyond_158 : decode cX8_isBeyond 158 = .ok (.lload_n 3, 1) := by decide +kernel
theorem dX8_isBeyond_159 : decode cX8_isBeyond 159 = .ok (.ldc2_w 198, 3) := by decide +kernel
theorem dX8_isBeyond_162 : decode cX8_isBeyond 162 = .ok (.lcmp, 1) := by decide +kernel
theorem dX8_isBeyond_163 : decode cX8_isBeyond 163 = .ok (.ifCond .lt 7, 3) := by decide +kernel
theorem dX8_isBeyond_166 : decode cX8_isBeyond 166 = .ok (.iconst 1, 1) := by decide +kernel
theorem dX8_isBeyond_167 : decode cX8_isBeyond 167 = .ok (.goto 4, 3) := by decide +kernel
theorem dX8_isBeyond_170 : decode cX8_isBeyond 170 = .ok (.iconst 0, 1) := by decide +kernel
theorem dX8_isBeyond_171 : decode cX8_isBeyond 171 = .ok (.ireturn, 1) := by decide +kernel
theorem dX8_isBeyond_172 : decode cX8_isBeyond 172 = .ok (.lload_n 3, 1) := by decide +kernel
theorem dX8_isBeyond_173 : decode cX8_isBeyond 173 = .ok (.lconst 0, 1) := by decide +kernel
theorem dX8_isBeyond_174 : decode cX8_isBeyond 174 = .ok (.lcmp, 1) := by decide +kernel
theorem dX8_isBeyond_175 : decode cX8_isBeyond 175 = .ok (.ifCond .lt 11, 3) := by decide +kernel
theorem dX8_isBeyond_178 : decode cX8_isBeyond 178 = .ok (.lload_n 3, 1) := by decide +kernel
theorem dX8_isBeyond_179 : decode cX8_isBeyond 179 = .ok (.ldc2_w 200, 3) := by decide +kernel
theorem dX8_isBeyond_182 : decode cX8_isBeyond 182 = .ok (.lcmp, 1) := by decide +kernel
theorem dX8_isBeyond_183 : decode cX8_isBeyond 183 = .ok (.ifCond .le 7, 3) := by decide +kernel
theorem dX8_isBeyond_186 : decode cX8_isBeyond 186 = .ok (.iconst 1, 1) := by decide +kernel
theorem dX8_isBeyond_187 : decode cX8_isBeyond 187 = .ok (.goto 4, 3) := by decide +kernel
theorem dX8_isBeyond_190 : decode cX8_isBeyond 190 = .ok (.iconst 0, 1) := by decide +kernel
theorem dX8_isBeyond_191 : decode cX8_isBeyond 191 = .ok (.ireturn, 1) := by decide +kernel
theorem dX8_isBeyond_192 : decode cX8_isBeyond 192 = .ok (.lload_n 3, 1) := by decide +kernel
theorem dX8_isBeyond_193 : decode cX8_isBeyond 193 = .ok (.ldc2_w 182, 3) := by decide +kernel
theorem dX8_isBeyond_196 : decode cX8_isBeyond 196 = .ok (.lcmp, 1) := by decide +kernel
theorem dX8_isBeyond_197 : decode cX8_isBeyond 197 = .ok (.ifCond .lt 16, 3) := by decide +kernel
theorem dX8_isBeyond_200 : decode cX8_isBeyond 200 = .ok (.lload_n 3, 1) := by decide +kernel
theorem dX8_isBeyond_201 : decode cX8_isBeyond 201 = .ok (.aload_n 0, 1) := by decide +kernel
theorem dX8_isBeyond_202 : decode cX8_isBeyond 202 = .ok (.getfield 19, 3) := by decide +kernel
theorem dX8_isBeyond_205 : decode cX8_isBeyond 205 = .ok (.invokevirtual 140, 3) := by decide +kernel
theorem dX8_isBeyond_208 : decode cX8_isBeyond 208 = .ok (.i2l, 1) := by decide +kernel
theorem dX8_isBeyond_209 : decode cX8_isBeyond 209 = .ok (.lcmp, 1) := by decide +kernel
theorem dX8_isBeyond_210 : decode cX8_isBeyond 210 = .ok (.ifCond .lt 7, 3) := by decide +kernel
theorem dX8_isBeyond_213 : decode cX8_isBeyond 213 = .ok (.iconst 1, 1) := by decide +kernel
theorem dX8_isBeyond_214 : decode cX8_isBeyond 214 = .ok (.goto 4, 3) := by decide +kernel
theorem dX8_isBeyond_217 : decode cX8_isBeyond 217 = .ok (.iconst 0, 1) := by decide +kernel
theorem dX8_isBeyond_218 : decode cX8_isBeyond 218 = .ok (.ireturn, 1) := by decide +kernel
theorem dX8_breaksShellRule_0 : decode cX8_breaksShellRule 0 = .ok (.aload_n 0, 1) := by decide +kernel
theorem dX8_breaksShellRule_1 : decode cX8_breaksShellRule 1 = .ok (.iload_n 2, 1) := by decide +kernel
theorem dX8_breaksShellRule_2 : decode cX8_breaksShellRule 2 = .ok (.iconst 0, 1) := by decide +kernel
theorem dX8_breaksShellRule_3 : decode cX8_breaksShellRule 3 = .ok (.invokevirtual 184, 3) := by decide +kernel
theorem dX8_breaksShellRule_6 : decode cX8_breaksShellRule 6 = .ok (.ldc2_w 190, 3) := by decide +kernel
theorem dX8_breaksShellRule_9 : decode cX8_breaksShellRule 9 = .ok (.lcmp, 1) := by decide +kernel
theorem dX8_breaksShellRule_10 : decode cX8_breaksShellRule 10 = .ok (.ifCond .ne 16, 3) := by decide +kernel
theorem dX8_breaksShellRule_13 : decode cX8_breaksShellRule 13 = .ok (.aload_n 0, 1) := by decide +kernel
theorem dX8_breaksShellRule_14 : decode cX8_breaksShellRule 14 = .ok (.getfield 26, 3) := by decide +kernel
theorem dX8_breaksShellRule_17 : decode cX8_breaksShellRule 17 = .ok (.iload_n 1, 1) := by decide +kernel
theorem dX8_breaksShellRule_18 : decode cX8_breaksShellRule 18 = .ok (.invokevirtual 202, 3) := by decide +kernel
theorem dX8_breaksShellRule_21 : decode cX8_breaksShellRule 21 = .ok (.ifCond .eq 5, 3) := by decide +kernel
theorem dX8_breaksShellRule_24 : decode cX8_breaksShellRule 24 = .ok (.iconst 1, 1) := by decide +kernel
theorem dX8_breaksShellRule_25 : decode cX8_breaksShellRule 25 = .ok (.ireturn, 1) := by decide +kernel
theorem dX8_breaksShellRule_26 : decode cX8_breaksShellRule 26 = .ok (.aload_n 0, 1) := by decide +kernel
theorem dX8_breaksShellRule_27 : decode cX8_breaksShellRule 27 = .ok (.iload_n 2, 1) := by decide +kernel
theorem dX8_breaksShellRule_28 : decode cX8_breaksShellRule 28 = .ok (.iconst 2, 1) := by decide +kernel
theorem dX8_breaksShellRule_29 : decode cX8_breaksShellRule 29 = .ok (.invokevirtual 184, 3) := by decide +kernel
theorem dX8_breaksShellRule_32 : decode cX8_breaksShellRule 32 = .ok (.l2i, 1) := by decide +kernel
theorem dX8_breaksShellRule_33 : decode cX8_breaksShellRule 33 = .ok (.istore_n 3, 1) := by decide +kernel
theorem dX8_breaksShellRule_34 : decode cX8_breaksShellRule 34 = .ok (.aload_n 0, 1) := by decide +kernel
theorem dX8_breaksShellRule_35 : decode cX8_breaksShellRule 35 = .ok (.getfield 26, 3) := by decide +kernel
theorem dX8_breaksShellRule_38 : decode cX8_breaksShellRule 38 = .ok (.iload_n 1, 1) := by decide +kernel
theorem dX8_breaksShellRule_39 : decode cX8_breaksShellRule 39 = .ok (.iload_n 3, 1) := by decide +kernel
theorem dX8_breaksShellRule_40 : decode cX8_breaksShellRule 40 = .ok (.iconst 0, 1) := by decide +kernel
theorem dX8_breaksShellRule_41 : decode cX8_breaksShellRule 41 = .ok (.invokevirtual 174, 3) := by decide +kernel
theorem dX8_breaksShellRule_44 : decode cX8_breaksShellRule 44 = .ok (.iconst 5, 1) := by decide +kernel
theorem dX8_breaksShellRule_45 : decode cX8_breaksShellRule 45 = .ok (.if_icmp .ne 7, 3) := by decide +kernel
theorem dX8_breaksShellRule_48 : decode cX8_breaksShellRule 48 = .ok (.iconst 1, 1) := by decide +kernel
theorem dX8_breaksShellRule_49 : decode cX8_breaksShellRule 49 = .ok (.goto 4, 3) := by decide +kernel
theorem dX8_breaksShellRule_52 : decode cX8_breaksShellRule 52 = .ok (.iconst 0, 1) := by decide +kernel
theorem dX8_breaksShellRule_53 : decode cX8_breaksShellRule 53 = .ok (.ireturn, 1) := by decide +kernel
theorem dX8_addPart_0 : decode cX8_addPart 0 = .ok (.aload_n 0, 1) := by decide +kernel
theorem dX8_addPart_1 : decode cX8_addPart 1 = .ok (.getfield 26, 3) := by decide +kernel
theorem dX8_addPart_4 : decode cX8_addPart 4 = .ok (.iload_n 1, 1) := by decide +kernel
theorem dX8_addPart_5 : decode cX8_addPart 5 = .ok (.invokevirtual 205, 3) := by decide +kernel
theorem dX8_addPart_8 : decode cX8_addPart 8 = .ok (.istore_n 3, 1) := by decide +kernel
theorem dX8_addPart_9 : decode cX8_addPart 9 = .ok (.iconst 0, 1) := by decide +kernel
theorem dX8_addPart_10 : decode cX8_addPart 10 = .ok (.istore 4, 2) := by decide +kernel
theorem dX8_addPart_12 : decode cX8_addPart 12 = .ok (.iload 4, 2) := by decide +kernel
theorem dX8_addPart_14 : decode cX8_addPart 14 = .ok (.bipush 8, 2) := by decide +kernel
theorem dX8_addPart_16 : decode cX8_addPart 16 = .ok (.if_icmp .ge 28, 3) := by decide +kernel
theorem dX8_addPart_19 : decode cX8_addPart 19 = .ok (.aload_n 0, 1) := by decide +kernel
theorem dX8_addPart_20 : decode cX8_addPart 20 = .ok (.getfield 26, 3) := by decide +kernel
theorem dX8_addPart_23 : decode cX8_addPart 23 = .ok (.iload_n 1, 1) := by decide +kernel
theorem dX8_addPart_24 : decode cX8_addPart 24 = .ok (.iload_n 3, 1) := by decide +kernel
theorem dX8_addPart_25 : decode cX8_addPart 25 = .ok (.iload 4, 2) := by decide +kernel
theorem dX8_addPart_27 : decode cX8_addPart 27 = .ok (.aload_n 0, 1) := by decide +kernel
theorem dX8_addPart_28 : decode cX8_addPart 28 = .ok (.iload_n 2, 1) := by decide +kernel
theorem dX8_addPart_29 : decode cX8_addPart 29 = .ok (.iload 4, 2) := by decide +kernel
theorem dX8_addPart_31 : decode cX8_addPart 31 = .ok (.invokevirtual 184, 3) := by decide +kernel
theorem dX8_addPart_34 : decode cX8_addPart 34 = .ok (.l2i, 1) := by decide +kernel
theorem dX8_addPart_35 : decode cX8_addPart 35 = .ok (.invokevirtual 208, 3) := by decide +kernel
theorem dX8_addPart_38 : decode cX8_addPart 38 = .ok (.iinc 4 1, 3) := by decide +kernel
theorem dX8_addPart_41 : decode cX8_addPart 41 = .ok (.goto (-29), 3) := by decide +kernel
theorem dX8_addPart_44 : decode cX8_addPart 44 = .ok (.iload_n 3, 1) := by decide +kernel
theorem dX8_addPart_45 : decode cX8_addPart 45 = .ok (.ireturn, 1) := by decide +kernel
theorem dX8_car_0 : decode cX8_car 0 = .ok (.aload_n 0, 1) := by decide +kernel
theorem dX8_car_1 : decode cX8_car 1 = .ok (.getfield 26, 3) := by decide +kernel
theorem dX8_car_4 : decode cX8_car 4 = .ok (.iload_n 1, 1) := by decide +kernel
theorem dX8_car_5 : decode cX8_car 5 = .ok (.invokevirtual 161, 3) := by decide +kernel
theorem dX8_car_8 : decode cX8_car 8 = .ok (.istore 5, 2) := by decide +kernel
theorem dX8_car_10 : decode cX8_car 10 = .ok (.iload 5, 2) := by decide +kernel
theorem dX8_car_12 : decode cX8_car 12 = .ok (.ifCond .ne 13, 3) := by decide +kernel
theorem dX8_car_15 : decode cX8_car 15 = .ok (.new 84, 3) := by decide +kernel
theorem dX8_car_18 : decode cX8_car 18 = .ok (.dup, 1) := by decide +kernel
theorem dX8_car_19 : decode cX8_car 19 = .ok (.ldc 212, 2) := by decide +kernel
theorem dX8_car_21 : decode cX8_car 21 = .ok (.invokespecial 88, 3) := by decide +kernel
theorem dX8_car_24 : decode cX8_car 24 = .ok (.athrow, 1) := by decide +kernel
theorem dX8_car_25 : decode cX8_car 25 = .ok (.iload_n 2, 1) := by decide +kernel
theorem dX8_car_26 : decode cX8_car 26 = .ok (.ifCond .lt 21, 3) := by decide +kernel
theorem dX8_car_29 : decode cX8_car 29 = .ok (.iload_n 2, 1) := by decide +kernel
theorem dX8_car_30 : decode cX8_car 30 = .ok (.sipush 9999, 3) := by decide +kernel
theorem dX8_car_33 : decode cX8_car 33 = .ok (.if_icmp .gt 14, 3) := by decide +kernel
theorem dX8_car_36 : decode cX8_car 36 = .ok (.iload_n 3, 1) := by decide +kernel
theorem dX8_car_37 : decode cX8_car 37 = .ok (.ifCond .lt 10, 3) := by decide +kernel
theorem dX8_car_40 : decode cX8_car 40 = .ok (.iload_n 3, 1) := by decide +kernel
theorem dX8_car_41 : decode cX8_car 41 = .ok (.sipush 255, 3) := by decide +kernel
theorem dX8_car_44 : decode cX8_car 44 = .ok (.if_icmp .le 13, 3) := by decide +kernel
theorem dX8_car_47 : decode cX8_car 47 = .ok (.new 84, 3) := by decide +kernel
theorem dX8_car_50 : decode cX8_car 50 = .ok (.dup, 1) := by decide +kernel
theorem dX8_car_51 : decode cX8_car 51 = .ok (.ldc 214, 2) := by decide +kernel
theorem dX8_car_53 : decode cX8_car 53 = .ok (.invokespecial 88, 3) := by decide +kernel
theorem dX8_car_56 : decode cX8_car 56 = .ok (.athrow, 1) := by decide +kernel
theorem dX8_car_57 : decode cX8_car 57 = .ok (.iconst 1, 1) := by decide +kernel
theorem dX8_car_58 : decode cX8_car 58 = .ok (.iload 5, 2) := by decide +kernel
theorem dX8_car_60 : decode cX8_car 60 = .ok (.ishl, 1) := by decide +kernel
theorem dX8_car_61 : decode cX8_car 61 = .ok (.iconst 1, 1) := by decide +kernel
theorem dX8_car_62 : decode cX8_car 62 = .ok (.isub, 1) := by decide +kernel
theorem dX8_car_63 : decode cX8_car 63 = .ok (.istore 6, 2) := by decide +kernel
theorem dX8_car_65 : decode cX8_car 65 = .ok (.iload 4, 2) := by decide +kernel
theorem dX8_car_67 : decode cX8_car 67 = .ok (.iload 6, 2) := by decide +kernel
theorem dX8_car_69 : decode cX8_car 69 = .ok (.iconst (-1), 1) := by decide +kernel
theorem dX8_car_70 : decode cX8_car 70 = .ok (.ixor, 1) := by decide +kernel
theorem dX8_car_71 : decode cX8_car 71 = .ok (.iand, 1) := by decide +kernel
theorem dX8_car_72 : decode cX8_car 72 = .ok (.ifCond .eq 13, 3) := by decide +kernel
theorem dX8_car_75 : decode cX8_car 75 = .ok (.new 84, 3) := by decide +kernel
theorem dX8_car_78 : decode cX8_car 78 = .ok (.dup, 1) := by decide +kernel
theorem dX8_car_79 : decode cX8_car 79 = .ok (.ldc 216, 2) := by decide +kernel
theorem dX8_car_81 : decode cX8_car 81 = .ok (.invokespecial 88, 3) := by decide +kernel
theorem dX8_car_84 : decode cX8_car 84 = .ok (.athrow, 1) := by decide +kernel
theorem dX8_car_85 : decode cX8_car 85 = .ok (.aload_n 0, 1) := by decide +kernel
theorem dX8_car_86 : decode cX8_car 86 = .ok (.getfield 63, 3) := by decide +kernel
theorem dX8_car_89 : decode cX8_car 89 = .ok (.ifCond .lt 15, 3) := by decide +kernel
theorem dX8_car_92 : decode cX8_car 92 = .ok (.aload_n 0, 1) := by decide +kernel
theorem dX8_car_93 : decode cX8_car 93 = .ok (.getfield 63, 3) := by decide +kernel
theorem dX8_car_96 : decode cX8_car 96 = .ok (.aload_n 0, 1) := by decide +kernel
theorem dX8_car_97 : decode cX8_car 97 = .ok (.getfield 46, 3) := by decide +kernel
theorem dX8_car_100 : decode cX8_car 100 = .ok (.arraylength, 1) := by decide +kernel
theorem dX8_car_101 : decode cX8_car 101 = .ok (.if_icmp .lt 5, 3) := by decide +kernel
theorem dX8_car_104 : decode cX8_car 104 = .ok (.iconst (-1), 1) := by decide +kernel
theorem dX8_car_105 : decode cX8_car 105 = .ok (.ireturn, 1) := by decide +kernel
theorem dX8_car_106 : decode cX8_car 106 = .ok (.new 44, 3) := by decide +kernel
theorem dX8_car_109 : decode cX8_car 109 = .ok (.dup, 1) := by decide +kernel
theorem dX8_car_110 : decode cX8_car 110 = .ok (.iload_n 1, 1) := by decide +kernel
theorem dX8_car_111 : decode cX8_car 111 = .ok (.iload_n 2, 1) := by decide +kernel
theorem dX8_car_112 : decode cX8_car 112 = .ok (.iload_n 3, 1) := by decide +kernel
theorem dX8_car_113 : decode cX8_car 113 = .ok (.iload 5, 2) := by decide +kernel
theorem dX8_car_115 : decode cX8_car 115 = .ok (.iload 6, 2) := by decide +kernel
theorem dX8_car_117 : decode cX8_car 117 = .ok (.iload 4, 2) := by decide +kernel
theorem dX8_car_119 : decode cX8_car 119 = .ok (.iconst (-1), 1) := by decide +kernel
theorem dX8_car_120 : decode cX8_car 120 = .ok (.ixor, 1) := by decide +kernel
theorem dX8_car_121 : decode cX8_car 121 = .ok (.iand, 1) := by decide +kernel
theorem dX8_car_122 : decode cX8_car 122 = .ok (.aload_n 0, 1) := by decide +kernel
theorem dX8_car_123 : decode cX8_car 123 = .ok (.getfield 73, 3) := by decide +kernel
theorem dX8_car_126 : decode cX8_car 126 = .ok (.invokespecial 218, 3) := by decide +kernel
theorem dX8_car_129 : decode cX8_car 129 = .ok (.astore 7, 2) := by decide +kernel
theorem dX8_car_131 : decode cX8_car 131 = .ok (.aload_n 0, 1) := by decide +kernel
theorem dX8_car_132 : decode cX8_car 132 = .ok (.getfield 46, 3) := by decide +kernel
theorem dX8_car_135 : decode cX8_car 135 = .ok (.aload_n 0, 1) := by decide +kernel
theorem dX8_car_136 : decode cX8_car 136 = .ok (.getfield 63, 3) := by decide +kernel
theorem dX8_car_139 : decode cX8_car 139 = .ok (.aload 7, 2) := by decide +kernel
theorem dX8_car_141 : decode cX8_car 141 = .ok (.aastore, 1) := by decide +kernel
theorem dX8_car_142 : decode cX8_car 142 = .ok (.aload_n 0, 1) := by decide +kernel
theorem dX8_car_143 : decode cX8_car 143 = .ok (.dup, 1) := by decide +kernel
theorem dX8_car_144 : decode cX8_car 144 = .ok (.getfield 63, 3) := by decide +kernel
theorem dX8_car_147 : decode cX8_car 147 = .ok (.iconst 1, 1) := by decide +kernel
theorem dX8_car_148 : decode cX8_car 148 = .ok (.iadd, 1) := by decide +kernel
theorem dX8_car_149 : decode cX8_car 149 = .ok (.putfield 63, 3) := by decide +kernel
theorem dX8_car_152 : decode cX8_car 152 = .ok (.aload_n 0, 1) := by decide +kernel
theorem dX8_car_153 : decode cX8_car 153 = .ok (.aload 7, 2) := by decide +kernel
theorem dX8_car_155 : decode cX8_car 155 = .ok (.invokevirtual 221, 3) := by decide +kernel
theorem dX8_car_158 : decode cX8_car 158 = .ok (.aload_n 0, 1) := by decide +kernel
theorem dX8_car_159 : decode cX8_car 159 = .ok (.getfield 33, 3) := by decide +kernel
theorem dX8_car_162 : decode cX8_car 162 = .ok (.invokevirtual 225, 3) := by decide +kernel
theorem dX8_car_165 : decode cX8_car 165 = .ok (.aload_n 0, 1) := by decide +kernel
theorem dX8_car_166 : decode cX8_car 166 = .ok (.getfield 63, 3) := by decide +kernel
theorem dX8_car_169 : decode cX8_car 169 = .ok (.iconst 1, 1) := by decide +kernel
theorem dX8_car_170 : decode cX8_car 170 = .ok (.isub, 1) := by decide +kernel
theorem dX8_car_171 : decode cX8_car 171 = .ok (.ireturn, 1) := by decide +kernel
theorem dX8_about_0 : decode cX8_about 0 = .ok (.aload_n 0, 1) := by decide +kernel
theorem dX8_about_1 : decode cX8_about 1 = .ok (.iload_n 1, 1) := by decide +kernel
theorem dX8_about_2 : decode cX8_about 2 = .ok (.invokevirtual 228, 3) := by decide +kernel
theorem dX8_about_5 : decode cX8_about 5 = .ok (.astore_n 3, 1) := by decide +kernel
theorem dX8_about_6 : decode cX8_about 6 = .ok (.iload_n 2, 1) := by decide +kernel
theorem dX8_about_7 : decode cX8_about 7 = .ok (.tableswitch 109 0 7 #[45, 50, 55, 60, 65, 78, 91, 104], 45) := by decide +kernel
theorem dX8_about_52 : decode cX8_about 52 = .ok (.aload_n 3, 1) := by decide +kernel
theorem dX8_about_53 : decode cX8_about 53 = .ok (.getfield 232, 3) := by decide +kernel
theorem dX8_about_56 : decode cX8_about 56 = .ok (.ireturn, 1) := by decide +kernel
theorem dX8_about_57 : decode cX8_about 57 = .ok (.aload_n 3, 1) := by decide +kernel
theorem dX8_about_58 : decode cX8_about 58 = .ok (.getfield 235, 3) := by decide +kernel
theorem dX8_about_61 : decode cX8_about 61 = .ok (.ireturn, 1) := by decide +kernel
theorem dX8_about_62 : decode cX8_about 62 = .ok (.aload_n 3, 1) := by decide +kernel
theorem dX8_about_63 : decode cX8_about 63 = .ok (.getfield 238, 3) := by decide +kernel
theorem dX8_about_66 : decode cX8_about 66 = .ok (.ireturn, 1) := by decide +kernel
theorem dX8_about_67 : decode cX8_about 67 = .ok (.aload_n 3, 1) := by decide +kernel
theorem dX8_about_68 : decode cX8_about 68 = .ok (.getfield 241, 3) := by decide +kernel
theorem dX8_about_71 : decode cX8_about 71 = .ok (.ireturn, 1) := by decide +kernel
theorem dX8_about_72 : decode cX8_about 72 = .ok (.aload_n 3, 1) := by decide +kernel
theorem dX8_about_73 : decode cX8_about 73 = .ok (.getfield 244, 3) := by decide +kernel
theorem dX8_about_76 : decode cX8_about 76 = .ok (.ifCond .eq 7, 3) := by decide +kernel
theorem dX8_about_79 : decode cX8_about 79 = .ok (.iconst 1, 1) := by decide +kernel
theorem dX8_about_80 : decode cX8_about 80 = .ok (.goto 4, 3) := by decide +kernel
theorem dX8_about_83 : decode cX8_about 83 = .ok (.iconst 0, 1) := by decide +kernel
theorem dX8_about_84 : decode cX8_about 84 = .ok (.ireturn, 1) := by decide +kernel
theorem dX8_about_85 : decode cX8_about 85 = .ok (.aload_n 3, 1) := by decide +kernel
theorem dX8_about_86 : decode cX8_about 86 = .ok (.getfield 248, 3) := by decide +kernel
theorem dX8_about_89 : decode cX8_about 89 = .ok (.ifCond .eq 7, 3) := by decide +kernel
theorem dX8_about_92 : decode cX8_about 92 = .ok (.iconst 1, 1) := by decide +kernel
theorem dX8_about_93 : decode cX8_about 93 = .ok (.goto 4, 3) := by decide +kernel
theorem dX8_about_96 : decode cX8_about 96 = .ok (.iconst 0, 1) := by decide +kernel
theorem dX8_about_97 : decode cX8_about 97 = .ok (.ireturn, 1) := by decide +kernel
theorem dX8_about_98 : decode cX8_about 98 = .ok (.aload_n 3, 1) := by decide +kernel
theorem dX8_about_99 : decode cX8_about 99 = .ok (.getfield 251, 3) := by decide +kernel
theorem dX8_about_102 : decode cX8_about 102 = .ok (.ifCond .eq 7, 3) := by decide +kernel
theorem dX8_about_105 : decode cX8_about 105 = .ok (.iconst 1, 1) := by decide +kernel
theorem dX8_about_106 : decode cX8_about 106 = .ok (.goto 4, 3) := by decide +kernel
theorem dX8_about_109 : decode cX8_about 109 = .ok (.iconst 0, 1) := by decide +kernel
theorem dX8_about_110 : decode cX8_about 110 = .ok (.ireturn, 1) := by decide +kernel
theorem dX8_about_111 : decode cX8_about 111 = .ok (.aload_n 3, 1) := by decide +kernel
theorem dX8_about_112 : decode cX8_about 112 = .ok (.getfield 254, 3) := by decide +kernel
theorem dX8_about_115 : decode cX8_about 115 = .ok (.ireturn, 1) := by decide +kernel
theorem dX8_about_116 : decode cX8_about 116 = .ok (.new 84, 3) := by decide +kernel
theorem dX8_about_119 : decode cX8_about 119 = .ok (.dup, 1) := by decide +kernel
theorem dX8_about_120 : decode cX8_about 120 = .ok (.ldc 172, 2) := by decide +kernel
theorem dX8_about_122 : decode cX8_about 122 = .ok (.invokespecial 88, 3) := by decide +kernel
theorem dX8_about_125 : decode cX8_about 125 = .ok (.athrow, 1) := by decide +kernel
theorem dX8_drain_0 : decode cX8_drain 0 = .ok (.aload_n 0, 1) := by decide +kernel
theorem dX8_drain_1 : decode cX8_drain 1 = .ok (.iload_n 1, 1) := by decide +kernel
theorem dX8_drain_2 : decode cX8_drain 2 = .ok (.invokevirtual 228, 3) := by decide +kernel
theorem dX8_drain_5 : decode cX8_drain 5 = .ok (.astore_n 2, 1) := by decide +kernel
theorem dX8_drain_6 : decode cX8_drain 6 = .ok (.aload_n 2, 1) := by decide +kernel
theorem dX8_drain_7 : decode cX8_drain 7 = .ok (.getfield 244, 3) := by decide +kernel
theorem dX8_drain_10 : decode cX8_drain 10 = .ok (.ifCond .ne 10, 3) := by decide +kernel
theorem dX8_drain_13 : decode cX8_drain 13 = .ok (.aload_n 2, 1) := by decide +kernel
theorem dX8_drain_14 : decode cX8_drain 14 = .ok (.getfield 251, 3) := by decide +kernel
theorem dX8_drain_17 : decode cX8_drain 17 = .ok (.ifCond .eq 5, 3) := by decide +kernel
theorem dX8_drain_20 : decode cX8_drain 20 = .ok (.iconst 0, 1) := by decide +kernel
theorem dX8_drain_21 : decode cX8_drain 21 = .ok (.ireturn, 1) := by decide +kernel
theorem dX8_drain_22 : decode cX8_drain 22 = .ok (.aload_n 2, 1) := by decide +kernel
theorem dX8_drain_23 : decode cX8_drain 23 = .ok (.iconst 1, 1) := by decide +kernel
theorem dX8_drain_24 : decode cX8_drain 24 = .ok (.putfield 244, 3) := by decide +kernel
theorem dX8_drain_27 : decode cX8_drain 27 = .ok (.aload_n 0, 1) := by decide +kernel
theorem dX8_drain_28 : decode cX8_drain 28 = .ok (.getfield 33, 3) := by decide +kernel
theorem dX8_drain_31 : decode cX8_drain 31 = .ok (.iconst 1, 1) := by decide +kernel
theorem dX8_drain_32 : decode cX8_drain 32 = .ok (.iload_n 1, 1) := by decide +kernel
theorem dX8_drain_33 : decode cX8_drain 33 = .ok (.invokevirtual 257, 3) := by decide +kernel
theorem dX8_drain_36 : decode cX8_drain 36 = .ok (.iconst 1, 1) := by decide +kernel
theorem dX8_drain_37 : decode cX8_drain 37 = .ok (.ireturn, 1) := by decide +kernel
theorem dX8_papers_0 : decode cX8_papers 0 = .ok (.aload_n 0, 1) := by decide +kernel
theorem dX8_papers_1 : decode cX8_papers 1 = .ok (.iload_n 1, 1) := by decide +kernel
theorem dX8_papers_2 : decode cX8_papers 2 = .ok (.invokevirtual 228, 3) := by decide +kernel
theorem dX8_papers_5 : decode cX8_papers 5 = .ok (.astore_n 2, 1) := by decide +kernel
theorem dX8_papers_6 : decode cX8_papers 6 = .ok (.aload_n 2, 1) := by decide +kernel
theorem dX8_papers_7 : decode cX8_papers 7 = .ok (.getfield 248, 3) := by decide +kernel
theorem dX8_papers_10 : decode cX8_papers 10 = .ok (.ifCond .ne 10, 3) := by decide +kernel
theorem dX8_papers_13 : decode cX8_papers 13 = .ok (.aload_n 2, 1) := by decide +kernel
theorem dX8_papers_14 : decode cX8_papers 14 = .ok (.getfield 251, 3) := by decide +kernel
theorem dX8_papers_17 : decode cX8_papers 17 = .ok (.ifCond .eq 5, 3) := by decide +kernel
theorem dX8_papers_20 : decode cX8_papers 20 = .ok (.iconst 0, 1) := by decide +kernel
theorem dX8_papers_21 : decode cX8_papers 21 = .ok (.ireturn, 1) := by decide +kernel
theorem dX8_papers_22 : decode cX8_papers 22 = .ok (.aload_n 2, 1) := by decide +kernel
theorem dX8_papers_23 : decode cX8_papers 23 = .ok (.iconst 1, 1) := by decide +kernel
theorem dX8_papers_24 : decode cX8_papers 24 = .ok (.putfield 248, 3) := by decide +kernel
theorem dX8_papers_27 : decode cX8_papers 27 = .ok (.aload_n 0, 1) := by decide +kernel
theorem dX8_papers_28 : decode cX8_papers 28 = .ok (.getfield 33, 3) := by decide +kernel
theorem dX8_papers_31 : decode cX8_papers 31 = .ok (.iconst 2, 1) := by decide +kernel
theorem dX8_papers_32 : decode cX8_papers 32 = .ok (.iload_n 1, 1) := by decide +kernel
theorem dX8_papers_33 : decode cX8_papers 33 = .ok (.invokevirtual 257, 3) := by decide +kernel
theorem dX8_papers_36 : decode cX8_papers 36 = .ok (.iconst 1, 1) := by decide +kernel
theorem dX8_papers_37 : decode cX8_papers 37 = .ok (.ireturn, 1) := by decide +kernel
theorem dX8_carAt_0 : decode cX8_carAt 0 = .ok (.iload_n 1, 1) := by decide +kernel
theorem dX8_carAt_1 : decode cX8_carAt 1 = .ok (.ifCond .lt 29, 3) := by decide +kernel
theorem dX8_carAt_4 : decode cX8_carAt 4 = .ok (.iload_n 1, 1) := by decide +kernel
theorem dX8_carAt_5 : decode cX8_carAt 5 = .ok (.aload_n 0, 1) := by decide +kernel
theorem dX8_carAt_6 : decode cX8_carAt 6 = .ok (.getfield 63, 3) := by decide +kernel
theorem dX8_carAt_9 : decode cX8_carAt 9 = .ok (.if_icmp .ge 21, 3) := by decide +kernel
theorem dX8_carAt_12 : decode cX8_carAt 12 = .ok (.iload_n 1, 1) := by decide +kernel
theorem dX8_carAt_13 : decode cX8_carAt 13 = .ok (.aload_n 0, 1) := by decide +kernel
theorem dX8_carAt_14 : decode cX8_carAt 14 = .ok (.getfield 46, 3) := by decide +kernel
theorem dX8_carAt_17 : decode cX8_carAt 17 = .ok (.arraylength, 1) := by decide +kernel
theorem dX8_carAt_18 : decode cX8_carAt 18 = .ok (.if_icmp .ge 12, 3) := by decide +kernel
theorem dX8_carAt_21 : decode cX8_carAt 21 = .ok (.aload_n 0, 1) := by decide +kernel
theorem dX8_carAt_22 : decode cX8_carAt 22 = .ok (.getfield 46, 3) := by decide +kernel
theorem dX8_carAt_25 : decode cX8_carAt 25 = .ok (.iload_n 1, 1) := by decide +kernel
theorem dX8_carAt_26 : decode cX8_carAt 26 = .ok (.aaload, 1) := by decide +kernel
theorem dX8_carAt_27 : decode cX8_carAt 27 = .ok (.goto 4, 3) := by decide +kernel
theorem dX8_carAt_30 : decode cX8_carAt 30 = .ok (.aconst_null, 1) := by decide +kernel
theorem dX8_carAt_31 : decode cX8_carAt 31 = .ok (.areturn, 1) := by decide +kernel
theorem dX8_carOf_0 : decode cX8_carOf 0 = .ok (.aload_n 0, 1) := by decide +kernel
theorem dX8_carOf_1 : decode cX8_carOf 1 = .ok (.iload_n 1, 1) := by decide +kernel
theorem dX8_carOf_2 : decode cX8_carOf 2 = .ok (.invokevirtual 260, 3) := by decide +kernel
theorem dX8_carOf_5 : decode cX8_carOf 5 = .ok (.astore_n 2, 1) := by decide +kernel
theorem dX8_carOf_6 : decode cX8_carOf 6 = .ok (.aload_n 2, 1) := by decide +kernel
theorem dX8_carOf_7 : decode cX8_carOf 7 = .ok (.ifnonnull 14, 3) := by decide +kernel
theorem dX8_carOf_10 : decode cX8_carOf 10 = .ok (.new 167, 3) := by decide +kernel
theorem dX8_carOf_13 : decode cX8_carOf 13 = .ok (.dup, 1) := by decide +kernel
theorem dX8_carOf_14 : decode cX8_carOf 14 = .ok (.ldc_w 263, 3) := by decide +kernel
theorem dX8_carOf_17 : decode cX8_carOf 17 = .ok (.invokespecial 171, 3) := by decide +kernel
theorem dX8_carOf_20 : decode cX8_carOf 20 = .ok (.athrow, 1) := by decide +kernel
theorem dX8_carOf_21 : decode cX8_carOf 21 = .ok (.aload_n 2, 1) := by decide +kernel
theorem dX8_carOf_22 : decode cX8_carOf 22 = .ok (.areturn, 1) := by decide +kernel
theorem dX8_carWithPart_0 : decode cX8_carWithPart 0 = .ok (.aload_n 0, 1) := by decide +kernel
theorem dX8_carWithPart_1 : decode cX8_carWithPart 1 = .ok (.iload_n 1, 1) := by decide +kernel
theorem dX8_carWithPart_2 : decode cX8_carWithPart 2 = .ok (.invokevirtual 228, 3) := by decide +kernel
theorem dX8_carWithPart_5 : decode cX8_carWithPart 5 = .ok (.astore_n 3, 1) := by decide +kernel
theorem dX8_carWithPart_6 : decode cX8_carWithPart 6 = .ok (.iload_n 2, 1) := by decide +kernel
theorem dX8_carWithPart_7 : decode cX8_carWithPart 7 = .ok (.ifCond .lt 11, 3) := by decide +kernel
theorem dX8_carWithPart_10 : decode cX8_carWithPart 10 = .ok (.iload_n 2, 1) := by decide +kernel
theorem dX8_carWithPart_11 : decode cX8_carWithPart 11 = .ok (.aload_n 3, 1) := by decide +kernel
theorem dX8_carWithPart_12 : decode cX8_carWithPart 12 = .ok (.getfield 265, 3) := by decide +kernel
theorem dX8_carWithPart_15 : decode cX8_carWithPart 15 = .ok (.if_icmp .lt 14, 3) := by decide +kernel
theorem dX8_carWithPart_18 : decode cX8_carWithPart 18 = .ok (.new 167, 3) := by decide +kernel
theorem dX8_carWithPart_21 : decode cX8_carWithPart 21 = .ok (.dup, 1) := by decide +kernel
theorem dX8_carWithPart_22 : decode cX8_carWithPart 22 = .ok (.ldc_w 268, 3) := by decide +kernel
theorem dX8_carWithPart_25 : decode cX8_carWithPart 25 = .ok (.invokespecial 171, 3) := by decide +kernel
theorem dX8_carWithPart_28 : decode cX8_carWithPart 28 = .ok (.athrow, 1) := by decide +kernel
theorem dX8_carWithPart_29 : decode cX8_carWithPart 29 = .ok (.aload_n 3, 1) := by decide +kernel
theorem dX8_carWithPart_30 : decode cX8_carWithPart 30 = .ok (.areturn, 1) := by decide +kernel
theorem dX8_weighComing_0 : decode cX8_weighComing 0 = .ok (.iconst 0, 1) := by decide +kernel
theorem dX8_weighComing_1 : decode cX8_weighComing 1 = .ok (.istore_n 2, 1) := by decide +kernel
theorem dX8_weighComing_2 : decode cX8_weighComing 2 = .ok (.iload_n 2, 1) := by decide +kernel
theorem dX8_weighComing_3 : decode cX8_weighComing 3 = .ok (.aload_n 1, 1) := by decide +kernel
theorem dX8_weighComing_4 : decode cX8_weighComing 4 = .ok (.getfield 265, 3) := by decide +kernel
theorem dX8_weighComing_7 : decode cX8_weighComing 7 = .ok (.if_icmp .ge 39, 3) := by decide +kernel
theorem dX8_weighComing_10 : decode cX8_weighComing 10 = .ok (.aload_n 1, 1) := by decide +kernel
theorem dX8_weighComing_11 : decode cX8_weighComing 11 = .ok (.iload_n 2, 1) := by decide +kernel
theorem dX8_weighComing_12 : decode cX8_weighComing 12 = .ok (.invokevirtual 270, 3) := by decide +kernel
theorem dX8_weighComing_15 : decode cX8_weighComing 15 = .ok (.ifCond .eq 25, 3) := by decide +kernel
theorem dX8_weighComing_18 : decode cX8_weighComing 18 = .ok (.aload_n 0, 1) := by decide +kernel
theorem dX8_weighComing_19 : decode cX8_weighComing 19 = .ok (.aload_n 1, 1) := by decide +kernel
theorem dX8_weighComing_20 : decode cX8_weighComing 20 = .ok (.getfield 232, 3) := by decide +kernel
theorem dX8_weighComing_23 : decode cX8_weighComing 23 = .ok (.iload_n 2, 1) := by decide +kernel
theorem dX8_weighComing_24 : decode cX8_weighComing 24 = .ok (.iconst 0, 1) := by decide +kernel
theorem dX8_weighComing_25 : decode cX8_weighComing 25 = .ok (.iconst 1, 1) := by decide +kernel
theorem dX8_weighComing_26 : decode cX8_weighComing 26 = .ok (.invokevirtual 273, 3) := by decide +kernel
theorem dX8_weighComing_29 : decode cX8_weighComing 29 = .ok (.aload_n 0, 1) := by decide +kernel
theorem dX8_weighComing_30 : decode cX8_weighComing 30 = .ok (.aload_n 1, 1) := by decide +kernel
theorem dX8_weighComing_31 : decode cX8_weighComing 31 = .ok (.getfield 232, 3) := by decide +kernel
theorem dX8_weighComing_34 : decode cX8_weighComing 34 = .ok (.iload_n 2, 1) := by decide +kernel
theorem dX8_weighComing_35 : decode cX8_weighComing 35 = .ok (.iconst 1, 1) := by decide +kernel
theorem dX8_weighComing_36 : decode cX8_weighComing 36 = .ok (.iconst 1, 1) := by decide +kernel
theorem dX8_weighComing_37 : decode cX8_weighComing 37 = .ok (.invokevirtual 273, 3) := by decide +kernel
theorem dX8_weighComing_40 : decode cX8_weighComing 40 = .ok (.iinc 2 1, 3) := by decide +kernel
theorem dX8_weighComing_43 : decode cX8_weighComing 43 = .ok (.goto (-41), 3) := by decide +kernel
theorem dX8_weighComing_46 : decode cX8_weighComing 46 = .ok (.return_, 1) := by decide +kernel
theorem dX8_hinders_0 : decode cX8_hinders 0 = .ok (.aload_n 0, 1) := by decide +kernel
theorem dX8_hinders_1 : decode cX8_hinders 1 = .ok (.aload_n 0, 1) := by decide +kernel
theorem dX8_hinders_2 : decode cX8_hinders 2 = .ok (.iload_n 1, 1) := by decide +kernel
theorem dX8_hinders_3 : decode cX8_hinders 3 = .ok (.iload_n 2, 1) := by decide +kernel
theorem dX8_hinders_4 : decode cX8_hinders 4 = .ok (.invokevirtual 276, 3) := by decide +kernel
theorem dX8_hinders_7 : decode cX8_hinders 7 = .ok (.iload_n 2, 1) := by decide +kernel
theorem dX8_hinders_8 : decode cX8_hinders 8 = .ok (.invokevirtual 280, 3) := by decide +kernel
theorem dX8_hinders_11 : decode cX8_hinders 11 = .ok (.ireturn, 1) := by decide +kernel
theorem dX8_take_0 : decode cX8_take 0 = .ok (.aload_n 0, 1) := by decide +kernel
theorem dX8_take_1 : decode cX8_take 1 = .ok (.iload_n 1, 1) := by decide +kernel
theorem dX8_take_2 : decode cX8_take 2 = .ok (.iload_n 2, 1) := by decide +kernel
theorem dX8_take_3 : decode cX8_take 3 = .ok (.invokevirtual 276, 3) := by decide +kernel
theorem dX8_take_6 : decode cX8_take 6 = .ok (.astore_n 3, 1) := by decide +kernel
theorem dX8_take_7 : decode cX8_take 7 = .ok (.aload_n 0, 1) := by decide +kernel
theorem dX8_take_8 : decode cX8_take 8 = .ok (.aload_n 3, 1) := by decide +kernel
theorem dX8_take_9 : decode cX8_take 9 = .ok (.iload_n 2, 1) := by decide +kernel
theorem dX8_take_10 : decode cX8_take 10 = .ok (.invokevirtual 280, 3) := by decide +kernel
theorem dX8_take_13 : decode cX8_take 13 = .ok (.istore 4, 2) := by decide +kernel
theorem dX8_take_15 : decode cX8_take 15 = .ok (.iload 4, 2) := by decide +kernel
theorem dX8_take_17 : decode cX8_take 17 = .ok (.ifCond .eq 7, 3) := by decide +kernel
theorem dX8_take_20 : decode cX8_take 20 = .ok (.iload 4, 2) := by decide +kernel
theorem dX8_take_22 : decode cX8_take 22 = .ok (.ineg, 1) := by decide +kernel
theorem dX8_take_23 : decode cX8_take 23 = .ok (.ireturn, 1) := by decide +kernel
theorem dX8_take_24 : decode cX8_take 24 = .ok (.aload_n 0, 1) := by decide +kernel
theorem dX8_take_25 : decode cX8_take 25 = .ok (.new 50, 3) := by decide +kernel
theorem dX8_take_28 : decode cX8_take 28 = .ok (.dup, 1) := by decide +kernel
theorem dX8_take_29 : decode cX8_take 29 = .ok (.iload_n 1, 1) := by decide +kernel
theorem dX8_take_30 : decode cX8_take 30 = .ok (.aload_n 3, 1) := by decide +kernel
theorem dX8_take_31 : decode cX8_take 31 = .ok (.getfield 232, 3) := by decide +kernel
theorem dX8_take_34 : decode cX8_take 34 = .ok (.iload_n 2, 1) := by decide +kernel
theorem dX8_take_35 : decode cX8_take 35 = .ok (.invokespecial 284, 3) := by decide +kernel
theorem dX8_take_38 : decode cX8_take 38 = .ok (.invokevirtual 287, 3) := by decide +kernel
theorem dX8_take_41 : decode cX8_take 41 = .ok (.istore 5, 2) := by decide +kernel
theorem dX8_take_43 : decode cX8_take 43 = .ok (.aload_n 3, 1) := by decide +kernel
theorem dX8_take_44 : decode cX8_take 44 = .ok (.dup, 1) := by decide +kernel
theorem dX8_take_45 : decode cX8_take 45 = .ok (.getfield 241, 3) := by decide +kernel
theorem dX8_take_48 : decode cX8_take 48 = .ok (.iconst 1, 1) := by decide +kernel
theorem dX8_take_49 : decode cX8_take 49 = .ok (.iload_n 2, 1) := by decide +kernel
theorem dX8_take_50 : decode cX8_take 50 = .ok (.ishl, 1) := by decide +kernel
theorem dX8_take_51 : decode cX8_take 51 = .ok (.iconst (-1), 1) := by decide +kernel
theorem dX8_take_52 : decode cX8_take 52 = .ok (.ixor, 1) := by decide +kernel
theorem dX8_take_53 : decode cX8_take 53 = .ok (.iand, 1) := by decide +kernel
theorem dX8_take_54 : decode cX8_take 54 = .ok (.putfield 241, 3) := by decide +kernel
theorem dX8_take_57 : decode cX8_take 57 = .ok (.aload_n 0, 1) := by decide +kernel
theorem dX8_take_58 : decode cX8_take 58 = .ok (.getfield 33, 3) := by decide +kernel
theorem dX8_take_61 : decode cX8_take 61 = .ok (.iconst 3, 1) := by decide +kernel
theorem dX8_take_62 : decode cX8_take 62 = .ok (.iload 5, 2) := by decide +kernel
theorem dX8_take_64 : decode cX8_take 64 = .ok (.invokevirtual 257, 3) := by decide +kernel
theorem dX8_take_67 : decode cX8_take 67 = .ok (.iload 5, 2) := by decide +kernel
theorem dX8_take_69 : decode cX8_take 69 = .ok (.ireturn, 1) := by decide +kernel
theorem dX8_press_0 : decode cX8_press 0 = .ok (.aload_n 0, 1) := by decide +kernel
theorem dX8_press_1 : decode cX8_press 1 = .ok (.iload_n 1, 1) := by decide +kernel
theorem dX8_press_2 : decode cX8_press 2 = .ok (.invokevirtual 228, 3) := by decide +kernel
theorem dX8_press_5 : decode cX8_press 5 = .ok (.astore_n 2, 1) := by decide +kernel
theorem dX8_press_6 : decode cX8_press 6 = .ok (.aload_n 0, 1) := by decide +kernel
theorem dX8_press_7 : decode cX8_press 7 = .ok (.aload_n 2, 1) := by decide +kernel
theorem dX8_press_8 : decode cX8_press 8 = .ok (.invokevirtual 291, 3) := by decide +kernel
theorem dX8_press_11 : decode cX8_press 11 = .ok (.istore_n 3, 1) := by decide +kernel
theorem dX8_press_12 : decode cX8_press 12 = .ok (.iload_n 3, 1) := by decide +kernel
theorem dX8_press_13 : decode cX8_press 13 = .ok (.ifCond .eq 6, 3) := by decide +kernel
theorem dX8_press_16 : decode cX8_press 16 = .ok (.iload_n 3, 1) := by decide +kernel
theorem dX8_press_17 : decode cX8_press 17 = .ok (.ineg, 1) := by decide +kernel
theorem dX8_press_18 : decode cX8_press 18 = .ok (.ireturn, 1) := by decide +kernel
theorem dX8_press_19 : decode cX8_press 19 = .ok (.iconst 0, 1) := by decide +kernel
theorem dX8_press_20 : decode cX8_press 20 = .ok (.istore 4, 2) := by decide +kernel
theorem dX8_press_22 : decode cX8_press 22 = .ok (.iconst 0, 1) := by decide +kernel
theorem dX8_press_23 : decode cX8_press 23 = .ok (.istore 5, 2) := by decide +kernel
theorem dX8_press_25 : decode cX8_press 25 = .ok (.iload 5, 2) := by decide +kernel
theorem dX8_press_27 : decode cX8_press 27 = .ok (.aload_n 2, 1) := by decide +kernel
theorem dX8_press_28 : decode cX8_press 28 = .ok (.getfield 265, 3) := by decide +kernel
theorem dX8_press_31 : decode cX8_press 31 = .ok (.if_icmp .ge 61, 3) := by decide +kernel
theorem dX8_press_34 : decode cX8_press 34 = .ok (.aload_n 2, 1) := by decide +kernel
theorem dX8_press_35 : decode cX8_press 35 = .ok (.iload 5, 2) := by decide +kernel
theorem dX8_press_37 : decode cX8_press 37 = .ok (.invokevirtual 270, 3) := by decide +kernel
theorem dX8_press_40 : decode cX8_press 40 = .ok (.ifCond .eq 46, 3) := by decide +kernel
theorem dX8_press_43 : decode cX8_press 43 = .ok (.aload_n 0, 1) := by decide +kernel
theorem dX8_press_44 : decode cX8_press 44 = .ok (.aload_n 2, 1) := by decide +kernel
theorem dX8_press_45 : decode cX8_press 45 = .ok (.getfield 232, 3) := by decide +kernel
theorem dX8_press_48 : decode cX8_press 48 = .ok (.iload 5, 2) := by decide +kernel
theorem dX8_press_50 : decode cX8_press 50 = .ok (.iconst 1, 1) := by decide +kernel
theorem dX8_press_51 : decode cX8_press 51 = .ok (.iconst (-1), 1) := by decide +kernel
theorem dX8_press_52 : decode cX8_press 52 = .ok (.invokevirtual 273, 3) := by decide +kernel
theorem dX8_press_55 : decode cX8_press 55 = .ok (.aload_n 0, 1) := by decide +kernel
theorem dX8_press_56 : decode cX8_press 56 = .ok (.aload_n 2, 1) := by decide +kernel
theorem dX8_press_57 : decode cX8_press 57 = .ok (.getfield 232, 3) := by decide +kernel
theorem dX8_press_60 : decode cX8_press 60 = .ok (.iload 5, 2) := by decide +kernel
theorem dX8_press_62 : decode cX8_press 62 = .ok (.iconst 4, 1) := by decide +kernel
theorem dX8_press_63 : decode cX8_press 63 = .ok (.iconst 1, 1) := by decide +kernel
theorem dX8_press_64 : decode cX8_press 64 = .ok (.invokevirtual 273, 3) := by decide +kernel
theorem dX8_press_67 : decode cX8_press 67 = .ok (.iload 4, 2) := by decide +kernel
theorem dX8_press_69 : decode cX8_press 69 = .ok (.aload_n 0, 1) := by decide +kernel
theorem dX8_press_70 : decode cX8_press 70 = .ok (.getfield 26, 3) := by decide +kernel
theorem dX8_press_73 : decode cX8_press 73 = .ok (.aload_n 2, 1) := by decide +kernel
theorem dX8_press_74 : decode cX8_press 74 = .ok (.getfield 232, 3) := by decide +kernel
theorem dX8_press_77 : decode cX8_press 77 = .ok (.iload 5, 2) := by decide +kernel
theorem dX8_press_79 : decode cX8_press 79 = .ok (.iconst 4, 1) := by decide +kernel
theorem dX8_press_80 : decode cX8_press 80 = .ok (.invokevirtual 174, 3) := by decide +kernel
theorem dX8_press_83 : decode cX8_press 83 = .ok (.iadd, 1) := by decide +kernel
theorem dX8_press_84 : decode cX8_press 84 = .ok (.istore 4, 2) := by decide +kernel
theorem dX8_press_86 : decode cX8_press 86 = .ok (.iinc 5 1, 3) := by decide +kernel
theorem dX8_press_89 : decode cX8_press 89 = .ok (.goto (-64), 3) := by decide +kernel
theorem dX8_press_92 : decode cX8_press 92 = .ok (.aload_n 2, 1) := by decide +kernel
theorem dX8_press_93 : decode cX8_press 93 = .ok (.iconst 0, 1) := by decide +kernel
theorem dX8_press_94 : decode cX8_press 94 = .ok (.putfield 241, 3) := by decide +kernel
theorem dX8_press_97 : decode cX8_press 97 = .ok (.aload_n 2, 1) := by decide +kernel
theorem dX8_press_98 : decode cX8_press 98 = .ok (.iconst 1, 1) := by decide +kernel
theorem dX8_press_99 : decode cX8_press 99 = .ok (.putfield 251, 3) := by decide +kernel
theorem dX8_press_102 : decode cX8_press 102 = .ok (.aload_n 0, 1) := by decide +kernel
theorem dX8_press_103 : decode cX8_press 103 = .ok (.getfield 33, 3) := by decide +kernel
theorem dX8_press_106 : decode cX8_press 106 = .ok (.invokevirtual 225, 3) := by decide +kernel
theorem dX8_press_109 : decode cX8_press 109 = .ok (.iload 4, 2) := by decide +kernel
theorem dX8_press_111 : decode cX8_press 111 = .ok (.ireturn, 1) := by decide +kernel
theorem dX8_hindranceOf_0 : decode cX8_hindranceOf 0 = .ok (.aload_n 0, 1) := by decide +kernel
theorem dX8_hindranceOf_1 : decode cX8_hindranceOf 1 = .ok (.getfield 26, 3) := by decide +kernel
theorem dX8_hindranceOf_4 : decode cX8_hindranceOf 4 = .ok (.aload_n 1, 1) := by decide +kernel
theorem dX8_hindranceOf_5 : decode cX8_hindranceOf 5 = .ok (.getfield 232, 3) := by decide +kernel
theorem dX8_hindranceOf_8 : decode cX8_hindranceOf 8 = .ok (.iload_n 2, 1) := by decide +kernel
theorem dX8_hindranceOf_9 : decode cX8_hindranceOf 9 = .ok (.iconst 0, 1) := by decide +kernel
theorem dX8_hindranceOf_10 : decode cX8_hindranceOf 10 = .ok (.invokevirtual 174, 3) := by decide +kernel
theorem dX8_hindranceOf_13 : decode cX8_hindranceOf 13 = .ok (.istore_n 3, 1) := by decide +kernel
theorem dX8_hindranceOf_14 : decode cX8_hindranceOf 14 = .ok (.aload_n 0, 1) := by decide +kernel
theorem dX8_hindranceOf_15 : decode cX8_hindranceOf 15 = .ok (.getfield 26, 3) := by decide +kernel
theorem dX8_hindranceOf_18 : decode cX8_hindranceOf 18 = .ok (.aload_n 1, 1) := by decide +kernel
theorem dX8_hindranceOf_19 : decode cX8_hindranceOf 19 = .ok (.getfield 232, 3) := by decide +kernel
theorem dX8_hindranceOf_22 : decode cX8_hindranceOf 22 = .ok (.iload_n 2, 1) := by decide +kernel
theorem dX8_hindranceOf_23 : decode cX8_hindranceOf 23 = .ok (.iconst 2, 1) := by decide +kernel
theorem dX8_hindranceOf_24 : decode cX8_hindranceOf 24 = .ok (.invokevirtual 174, 3) := by decide +kernel
theorem dX8_hindranceOf_27 : decode cX8_hindranceOf 27 = .ok (.istore 4, 2) := by decide +kernel
theorem dX8_hindranceOf_29 : decode cX8_hindranceOf 29 = .ok (.aload_n 1, 1) := by decide +kernel
theorem dX8_hindranceOf_30 : decode cX8_hindranceOf 30 = .ok (.getfield 251, 3) := by decide +kernel
theorem dX8_hindranceOf_33 : decode cX8_hindranceOf 33 = .ok (.ifCond .eq 5, 3) := by decide +kernel
theorem dX8_hindranceOf_36 : decode cX8_hindranceOf 36 = .ok (.iconst 1, 1) := by decide +kernel
theorem dX8_hindranceOf_37 : decode cX8_hindranceOf 37 = .ok (.ireturn, 1) := by decide +kernel
theorem dX8_hindranceOf_38 : decode cX8_hindranceOf 38 = .ok (.aload_n 1, 1) := by decide +kernel
theorem dX8_hindranceOf_39 : decode cX8_hindranceOf 39 = .ok (.iload_n 2, 1) := by decide +kernel
theorem dX8_hindranceOf_40 : decode cX8_hindranceOf 40 = .ok (.invokevirtual 270, 3) := by decide +kernel
theorem dX8_hindranceOf_43 : decode cX8_hindranceOf 43 = .ok (.ifCond .ne 5, 3) := by decide +kernel
theorem dX8_hindranceOf_46 : decode cX8_hindranceOf 46 = .ok (.iconst 2, 1) := by decide +kernel
theorem dX8_hindranceOf_47 : decode cX8_hindranceOf 47 = .ok (.ireturn, 1) := by decide +kernel
theorem dX8_hindranceOf_48 : decode cX8_hindranceOf 48 = .ok (.aload_n 1, 1) := by decide +kernel
theorem dX8_hindranceOf_49 : decode cX8_hindranceOf 49 = .ok (.iload 4, 2) := by decide +kernel
theorem dX8_hindranceOf_51 : decode cX8_hindranceOf 51 = .ok (.invokevirtual 270, 3) := by decide +kernel
theorem dX8_hindranceOf_54 : decode cX8_hindranceOf 54 = .ok (.ifCond .eq 5, 3) := by decide +kernel
theorem dX8_hindranceOf_57 : decode cX8_hindranceOf 57 = .ok (.iconst 3, 1) := by decide +kernel
theorem dX8_hindranceOf_58 : decode cX8_hindranceOf 58 = .ok (.ireturn, 1) := by decide +kernel
theorem dX8_hindranceOf_59 : decode cX8_hindranceOf 59 = .ok (.iload_n 3, 1) := by decide +kernel
theorem dX8_hindranceOf_60 : decode cX8_hindranceOf 60 = .ok (.invokestatic 295, 3) := by decide +kernel
theorem dX8_hindranceOf_63 : decode cX8_hindranceOf 63 = .ok (.ifCond .eq 12, 3) := by decide +kernel
theorem dX8_hindranceOf_66 : decode cX8_hindranceOf 66 = .ok (.aload_n 1, 1) := by decide +kernel
theorem dX8_hindranceOf_67 : decode cX8_hindranceOf 67 = .ok (.getfield 244, 3) := by decide +kernel
theorem dX8_hindranceOf_70 : decode cX8_hindranceOf 70 = .ok (.ifCond .ne 5, 3) := by decide +kernel
theorem dX8_hindranceOf_73 : decode cX8_hindranceOf 73 = .ok (.iconst 4, 1) := by decide +kernel
theorem dX8_hindranceOf_74 : decode cX8_hindranceOf 74 = .ok (.ireturn, 1) := by decide +kernel
theorem dX8_hindranceOf_75 : decode cX8_hindranceOf 75 = .ok (.iload_n 3, 1) := by decide +kernel
theorem dX8_hindranceOf_76 : decode cX8_hindranceOf 76 = .ok (.iconst 5, 1) := by decide +kernel
theorem dX8_hindranceOf_77 : decode cX8_hindranceOf 77 = .ok (.if_icmp .ne 15, 3) := by decide +kernel
theorem dX8_hindranceOf_80 : decode cX8_hindranceOf 80 = .ok (.aload_n 1, 1) := by decide +kernel
theorem dX8_hindranceOf_81 : decode cX8_hindranceOf 81 = .ok (.getfield 241, 3) := by decide +kernel
theorem dX8_hindranceOf_84 : decode cX8_hindranceOf 84 = .ok (.iconst 1, 1) := by decide +kernel
theorem dX8_hindranceOf_85 : decode cX8_hindranceOf 85 = .ok (.iload_n 2, 1) := by decide +kernel
theorem dX8_hindranceOf_86 : decode cX8_hindranceOf 86 = .ok (.ishl, 1) := by decide +kernel
theorem dX8_hindranceOf_87 : decode cX8_hindranceOf 87 = .ok (.if_icmp .eq 5, 3) := by decide +kernel
theorem dX8_hindranceOf_90 : decode cX8_hindranceOf 90 = .ok (.iconst 5, 1) := by decide +kernel
theorem dX8_hindranceOf_91 : decode cX8_hindranceOf 91 = .ok (.ireturn, 1) := by decide +kernel
theorem dX8_hindranceOf_92 : decode cX8_hindranceOf 92 = .ok (.aload_n 0, 1) := by decide +kernel
theorem dX8_hindranceOf_93 : decode cX8_hindranceOf 93 = .ok (.getfield 70, 3) := by decide +kernel
theorem dX8_hindranceOf_96 : decode cX8_hindranceOf 96 = .ok (.bipush 60, 2) := by decide +kernel
theorem dX8_hindranceOf_98 : decode cX8_hindranceOf 98 = .ok (.if_icmp .lt 6, 3) := by decide +kernel
theorem dX8_hindranceOf_101 : decode cX8_hindranceOf 101 = .ok (.bipush 6, 2) := by decide +kernel
theorem dX8_hindranceOf_103 : decode cX8_hindranceOf 103 = .ok (.ireturn, 1) := by decide +kernel
theorem dX8_hindranceOf_104 : decode cX8_hindranceOf 104 = .ok (.aload_n 0, 1) := by decide +kernel
theorem dX8_hindranceOf_105 : decode cX8_hindranceOf 105 = .ok (.getfield 67, 3) := by decide +kernel
theorem dX8_hindranceOf_108 : decode cX8_hindranceOf 108 = .ok (.sipush 400, 3) := by decide +kernel
theorem dX8_hindranceOf_111 : decode cX8_hindranceOf 111 = .ok (.if_icmp .lt 8, 3) := by decide +kernel
theorem dX8_hindranceOf_114 : decode cX8_hindranceOf 114 = .ok (.bipush 7, 2) := by decide +kernel
theorem dX8_hindranceOf_116 : decode cX8_hindranceOf 116 = .ok (.goto 4, 3) := by decide +kernel
theorem dX8_hindranceOf_119 : decode cX8_hindranceOf 119 = .ok (.iconst 0, 1) := by decide +kernel
theorem dX8_hindranceOf_120 : decode cX8_hindranceOf 120 = .ok (.ireturn, 1) := by decide +kernel
theorem dX8_pressHindranceOf_0 : decode cX8_pressHindranceOf 0 = .ok (.aload_n 1, 1) := by decide +kernel
theorem dX8_pressHindranceOf_1 : decode cX8_pressHindranceOf 1 = .ok (.getfield 251, 3) := by decide +kernel
theorem dX8_pressHindranceOf_4 : decode cX8_pressHindranceOf 4 = .ok (.ifCond .eq 5, 3) := by decide +kernel
theorem dX8_pressHindranceOf_7 : decode cX8_pressHindranceOf 7 = .ok (.iconst 1, 1) := by decide +kernel
theorem dX8_pressHindranceOf_8 : decode cX8_pressHindranceOf 8 = .ok (.ireturn, 1) := by decide +kernel
theorem dX8_pressHindranceOf_9 : decode cX8_pressHindranceOf 9 = .ok (.aload_n 1, 1) := by decide +kernel
theorem dX8_pressHindranceOf_10 : decode cX8_pressHindranceOf 10 = .ok (.getfield 244, 3) := by decide +kernel
theorem dX8_pressHindranceOf_13 : decode cX8_pressHindranceOf 13 = .ok (.ifCond .ne 5, 3) := by decide +kernel
theorem dX8_pressHindranceOf_16 : decode cX8_pressHindranceOf 16 = .ok (.iconst 2, 1) := by decide +kernel
theorem dX8_pressHindranceOf_17 : decode cX8_pressHindranceOf 17 = .ok (.ireturn, 1) := by decide +kernel
theorem dX8_pressHindranceOf_18 : decode cX8_pressHindranceOf 18 = .ok (.aload_n 1, 1) := by decide +kernel
theorem dX8_pressHindranceOf_19 : decode cX8_pressHindranceOf 19 = .ok (.getfield 248, 3) := by decide +kernel
theorem dX8_pressHindranceOf_22 : decode cX8_pressHindranceOf 22 = .ok (.ifCond .ne 5, 3) := by decide +kernel
theorem dX8_pressHindranceOf_25 : decode cX8_pressHindranceOf 25 = .ok (.iconst 3, 1) := by decide +kernel
theorem dX8_pressHindranceOf_26 : decode cX8_pressHindranceOf 26 = .ok (.ireturn, 1) := by decide +kernel
theorem dX8_pressHindranceOf_27 : decode cX8_pressHindranceOf 27 = .ok (.aload_n 0, 1) := by decide +kernel
theorem dX8_pressHindranceOf_28 : decode cX8_pressHindranceOf 28 = .ok (.aload_n 1, 1) := by decide +kernel
theorem dX8_pressHindranceOf_29 : decode cX8_pressHindranceOf 29 = .ok (.invokevirtual 298, 3) := by decide +kernel
theorem dX8_pressHindranceOf_32 : decode cX8_pressHindranceOf 32 = .ok (.ifCond .eq 7, 3) := by decide +kernel
theorem dX8_pressHindranceOf_35 : decode cX8_pressHindranceOf 35 = .ok (.iconst 4, 1) := by decide +kernel
theorem dX8_pressHindranceOf_36 : decode cX8_pressHindranceOf 36 = .ok (.goto 4, 3) := by decide +kernel
theorem dX8_pressHindranceOf_39 : decode cX8_pressHindranceOf 39 = .ok (.iconst 0, 1) := by decide +kernel
theorem dX8_pressHindranceOf_40 : decode cX8_pressHindranceOf 40 = .ok (.ireturn, 1) := by decide +kernel
theorem dX8_hasDangerOn_0 : decode cX8_hasDangerOn 0 = .ok (.iconst 0, 1) := by decide +kernel
theorem dX8_hasDangerOn_1 : decode cX8_hasDangerOn 1 = .ok (.istore_n 2, 1) := by decide +kernel
theorem dX8_hasDangerOn_2 : decode cX8_hasDangerOn 2 = .ok (.iload_n 2, 1) := by decide +kernel
theorem dX8_hasDangerOn_3 : decode cX8_hasDangerOn 3 = .ok (.aload_n 1, 1) := by decide +kernel
theorem dX8_hasDangerOn_4 : decode cX8_hasDangerOn 4 = .ok (.getfield 265, 3) := by decide +kernel
theorem dX8_hasDangerOn_7 : decode cX8_hasDangerOn 7 = .ok (.if_icmp .ge 36, 3) := by decide +kernel
theorem dX8_hasDangerOn_10 : decode cX8_hasDangerOn 10 = .ok (.aload_n 1, 1) := by decide +kernel
theorem dX8_hasDangerOn_11 : decode cX8_hasDangerOn 11 = .ok (.iload_n 2, 1) := by decide +kernel
theorem dX8_hasDangerOn_12 : decode cX8_hasDangerOn 12 = .ok (.invokevirtual 270, 3) := by decide +kernel
theorem dX8_hasDangerOn_15 : decode cX8_hasDangerOn 15 = .ok (.ifCond .eq 22, 3) := by decide +kernel
theorem dX8_hasDangerOn_18 : decode cX8_hasDangerOn 18 = .ok (.aload_n 0, 1) := by decide +kernel
theorem dX8_hasDangerOn_19 : decode cX8_hasDangerOn 19 = .ok (.getfield 26, 3) := by decide +kernel
theorem dX8_hasDangerOn_22 : decode cX8_hasDangerOn 22 = .ok (.aload_n 1, 1) := by decide +kernel
theorem dX8_hasDangerOn_23 : decode cX8_hasDangerOn 23 = .ok (.getfield 232, 3) := by decide +kernel
theorem dX8_hasDangerOn_26 : decode cX8_hasDangerOn 26 = .ok (.iload_n 2, 1) := by decide +kernel
theorem dX8_hasDangerOn_27 : decode cX8_hasDangerOn 27 = .ok (.iconst 0, 1) := by decide +kernel
theorem dX8_hasDangerOn_28 : decode cX8_hasDangerOn 28 = .ok (.invokevirtual 174, 3) := by decide +kernel
theorem dX8_hasDangerOn_31 : decode cX8_hasDangerOn 31 = .ok (.iconst 4, 1) := by decide +kernel
theorem dX8_hasDangerOn_32 : decode cX8_hasDangerOn 32 = .ok (.if_icmp .ne 5, 3) := by decide +kernel
theorem dX8_hasDangerOn_35 : decode cX8_hasDangerOn 35 = .ok (.iconst 1, 1) := by decide +kernel
theorem dX8_hasDangerOn_36 : decode cX8_hasDangerOn 36 = .ok (.ireturn, 1) := by decide +kernel
theorem dX8_hasDangerOn_37 : decode cX8_hasDangerOn 37 = .ok (.iinc 2 1, 3) := by decide +kernel
theorem dX8_hasDangerOn_40 : decode cX8_hasDangerOn 40 = .ok (.goto (-38), 3) := by decide +kernel
theorem dX8_hasDangerOn_43 : decode cX8_hasDangerOn 43 = .ok (.iconst 0, 1) := by decide +kernel
theorem dX8_hasDangerOn_44 : decode cX8_hasDangerOn 44 = .ok (.ireturn, 1) := by decide +kernel
theorem dX8_needsDraining_0 : decode cX8_needsDraining 0 = .ok (.iload_n 0, 1) := by decide +kernel
theorem dX8_needsDraining_1 : decode cX8_needsDraining 1 = .ok (.iconst 3, 1) := by decide +kernel
theorem dX8_needsDraining_2 : decode cX8_needsDraining 2 = .ok (.if_icmp .eq 8, 3) := by decide +kernel
theorem dX8_needsDraining_5 : decode cX8_needsDraining 5 = .ok (.iload_n 0, 1) := by decide +kernel
theorem dX8_needsDraining_6 : decode cX8_needsDraining 6 = .ok (.iconst 4, 1) := by decide +kernel
theorem dX8_needsDraining_7 : decode cX8_needsDraining 7 = .ok (.if_icmp .ne 7, 3) := by decide +kernel
theorem dX8_needsDraining_10 : decode cX8_needsDraining 10 = .ok (.iconst 1, 1) := by decide +kernel
theorem dX8_needsDraining_11 : decode cX8_needsDraining 11 = .ok (.goto 4, 3) := by decide +kernel
theorem dX8_needsDraining_14 : decode cX8_needsDraining 14 = .ok (.iconst 0, 1) := by decide +kernel
theorem dX8_needsDraining_15 : decode cX8_needsDraining 15 = .ok (.ireturn, 1) := by decide +kernel
theorem dX8_day_0 : decode cX8_day 0 = .ok (.iload_n 1, 1) := by decide +kernel
theorem dX8_day_1 : decode cX8_day 1 = .ok (.ifCond .lt 10, 3) := by decide +kernel
theorem dX8_day_4 : decode cX8_day 4 = .ok (.iload_n 1, 1) := by decide +kernel
theorem dX8_day_5 : decode cX8_day 5 = .ok (.sipush 10000, 3) := by decide +kernel
theorem dX8_day_8 : decode cX8_day 8 = .ok (.if_icmp .le 14, 3) := by decide +kernel
theorem dX8_day_11 : decode cX8_day 11 = .ok (.new 84, 3) := by decide +kernel
theorem dX8_day_14 : decode cX8_day 14 = .ok (.dup, 1) := by decide +kernel
theorem dX8_day_15 : decode cX8_day 15 = .ok (.ldc_w 302, 3) := by decide +kernel
theorem dX8_day_18 : decode cX8_day 18 = .ok (.invokespecial 88, 3) := by decide +kernel
theorem dX8_day_21 : decode cX8_day 21 = .ok (.athrow, 1) := by decide +kernel
theorem dX8_day_22 : decode cX8_day 22 = .ok (.aload_n 0, 1) := by decide +kernel
theorem dX8_day_23 : decode cX8_day 23 = .ok (.getfield 73, 3) := by decide +kernel
theorem dX8_day_26 : decode cX8_day 26 = .ok (.iload_n 1, 1) := by decide +kernel
theorem dX8_day_27 : decode cX8_day 27 = .ok (.iadd, 1) := by decide +kernel
theorem dX8_day_28 : decode cX8_day 28 = .ok (.ldc_w 304, 3) := by decide +kernel
theorem dX8_day_31 : decode cX8_day 31 = .ok (.if_icmp .le 14, 3) := by decide +kernel
theorem dX8_day_34 : decode cX8_day 34 = .ok (.new 95, 3) := by decide +kernel
theorem dX8_day_37 : decode cX8_day 37 = .ok (.dup, 1) := by decide +kernel
theorem dX8_day_38 : decode cX8_day 38 = .ok (.ldc_w 305, 3) := by decide +kernel
theorem dX8_day_41 : decode cX8_day 41 = .ok (.invokespecial 99, 3) := by decide +kernel
theorem dX8_day_44 : decode cX8_day 44 = .ok (.athrow, 1) := by decide +kernel
theorem dX8_day_45 : decode cX8_day 45 = .ok (.iload_n 1, 1) := by decide +kernel
theorem dX8_day_46 : decode cX8_day 46 = .ok (.ifCond .le 20, 3) := by decide +kernel
theorem dX8_day_49 : decode cX8_day 49 = .ok (.aload_n 0, 1) := by decide +kernel
theorem dX8_day_50 : decode cX8_day 50 = .ok (.dup, 1) := by decide +kernel
theorem dX8_day_51 : decode cX8_day 51 = .ok (.getfield 73, 3) := by decide +kernel
theorem dX8_day_54 : decode cX8_day 54 = .ok (.iload_n 1, 1) := by decide +kernel
theorem dX8_day_55 : decode cX8_day 55 = .ok (.iadd, 1) := by decide +kernel
theorem dX8_day_56 : decode cX8_day 56 = .ok (.putfield 73, 3) := by decide +kernel
theorem dX8_day_59 : decode cX8_day 59 = .ok (.aload_n 0, 1) := by decide +kernel
theorem dX8_day_60 : decode cX8_day 60 = .ok (.getfield 33, 3) := by decide +kernel
theorem dX8_day_63 : decode cX8_day 63 = .ok (.invokevirtual 225, 3) := by decide +kernel
theorem dX8_day_66 : decode cX8_day 66 = .ok (.aload_n 0, 1) := by decide +kernel
theorem dX8_day_67 : decode cX8_day 67 = .ok (.getfield 73, 3) := by decide +kernel
theorem dX8_day_70 : decode cX8_day 70 = .ok (.ireturn, 1) := by decide +kernel
theorem dX8_late_0 : decode cX8_late 0 = .ok (.iload_n 1, 1) := by decide +kernel
theorem dX8_late_1 : decode cX8_late 1 = .ok (.ifCond .eq 18, 3) := by decide +kernel
theorem dX8_late_4 : decode cX8_late 4 = .ok (.iload_n 1, 1) := by decide +kernel
theorem dX8_late_5 : decode cX8_late 5 = .ok (.iconst 1, 1) := by decide +kernel
theorem dX8_late_6 : decode cX8_late 6 = .ok (.if_icmp .eq 13, 3) := by decide +kernel
theorem dX8_late_9 : decode cX8_late 9 = .ok (.new 84, 3) := by decide +kernel
theorem dX8_late_12 : decode cX8_late 12 = .ok (.dup, 1) := by decide +kernel
theorem dX8_late_13 : decode cX8_late 13 = .ok (.ldc 172, 2) := by decide +kernel
theorem dX8_late_15 : decode cX8_late 15 = .ok (.invokespecial 88, 3) := by decide +kernel
theorem dX8_late_18 : decode cX8_late 18 = .ok (.athrow, 1) := by decide +kernel
theorem dX8_late_19 : decode cX8_late 19 = .ok (.iconst 0, 1) := by decide +kernel
theorem dX8_late_20 : decode cX8_late 20 = .ok (.istore_n 3, 1) := by decide +kernel
theorem dX8_late_21 : decode cX8_late 21 = .ok (.iconst 0, 1) := by decide +kernel
theorem dX8_late_22 : decode cX8_late 22 = .ok (.istore 4, 2) := by decide +kernel
theorem dX8_late_24 : decode cX8_late 24 = .ok (.iload 4, 2) := by decide +kernel
theorem dX8_late_26 : decode cX8_late 26 = .ok (.aload_n 0, 1) := by decide +kernel
theorem dX8_late_27 : decode cX8_late 27 = .ok (.getfield 63, 3) := by decide +kernel
theorem dX8_late_30 : decode cX8_late 30 = .ok (.if_icmp .ge 34, 3) := by decide +kernel
theorem dX8_late_33 : decode cX8_late 33 = .ok (.aload_n 0, 1) := by decide +kernel
theorem dX8_late_34 : decode cX8_late 34 = .ok (.aload_n 0, 1) := by decide +kernel
theorem dX8_late_35 : decode cX8_late 35 = .ok (.iload 4, 2) := by decide +kernel
theorem dX8_late_37 : decode cX8_late 37 = .ok (.invokevirtual 260, 3) := by decide +kernel
theorem dX8_late_40 : decode cX8_late 40 = .ok (.iload_n 1, 1) := by decide +kernel
theorem dX8_late_41 : decode cX8_late 41 = .ok (.invokevirtual 307, 3) := by decide +kernel
theorem dX8_late_44 : decode cX8_late 44 = .ok (.ifCond .eq 14, 3) := by decide +kernel
theorem dX8_late_47 : decode cX8_late 47 = .ok (.iload_n 3, 1) := by decide +kernel
theorem dX8_late_48 : decode cX8_late 48 = .ok (.iload_n 2, 1) := by decide +kernel
theorem dX8_late_49 : decode cX8_late 49 = .ok (.if_icmp .ne 6, 3) := by decide +kernel
theorem dX8_late_52 : decode cX8_late 52 = .ok (.iload 4, 2) := by decide +kernel
theorem dX8_late_54 : decode cX8_late 54 = .ok (.ireturn, 1) := by decide +kernel
theorem dX8_late_55 : decode cX8_late 55 = .ok (.iinc 3 1, 3) := by decide +kernel
theorem dX8_late_58 : decode cX8_late 58 = .ok (.iinc 4 1, 3) := by decide +kernel
theorem dX8_late_61 : decode cX8_late 61 = .ok (.goto (-37), 3) := by decide +kernel
theorem dX8_late_64 : decode cX8_late 64 = .ok (.iconst (-1), 1) := by decide +kernel
theorem dX8_late_65 : decode cX8_late 65 = .ok (.ireturn, 1) := by decide +kernel
theorem dX8_isLate_0 : decode cX8_isLate 0 = .ok (.aload_n 1, 1) := by decide +kernel
theorem dX8_isLate_1 : decode cX8_isLate 1 = .ok (.ifnonnull 5, 3) := by decide +kernel
theorem dX8_isLate_4 : decode cX8_isLate 4 = .ok (.iconst 0, 1) := by decide +kernel
theorem dX8_isLate_5 : decode cX8_isLate 5 = .ok (.ireturn, 1) := by decide +kernel
theorem dX8_isLate_6 : decode cX8_isLate 6 = .ok (.aload_n 0, 1) := by decide +kernel
theorem dX8_isLate_7 : decode cX8_isLate 7 = .ok (.getfield 73, 3) := by decide +kernel
theorem dX8_isLate_10 : decode cX8_isLate 10 = .ok (.aload_n 1, 1) := by decide +kernel
theorem dX8_isLate_11 : decode cX8_isLate 11 = .ok (.getfield 254, 3) := by decide +kernel
theorem dX8_isLate_14 : decode cX8_isLate 14 = .ok (.isub, 1) := by decide +kernel
theorem dX8_isLate_15 : decode cX8_isLate 15 = .ok (.istore_n 3, 1) := by decide +kernel
theorem dX8_isLate_16 : decode cX8_isLate 16 = .ok (.iload_n 2, 1) := by decide +kernel
theorem dX8_isLate_17 : decode cX8_isLate 17 = .ok (.ifCond .ne 23, 3) := by decide +kernel
theorem dX8_isLate_20 : decode cX8_isLate 20 = .ok (.aload_n 1, 1) := by decide +kernel
theorem dX8_isLate_21 : decode cX8_isLate 21 = .ok (.getfield 244, 3) := by decide +kernel
theorem dX8_isLate_24 : decode cX8_isLate 24 = .ok (.ifCond .ne 12, 3) := by decide +kernel
theorem dX8_isLate_27 : decode cX8_isLate 27 = .ok (.iload_n 3, 1) := by decide +kernel
theorem dX8_isLate_28 : decode cX8_isLate 28 = .ok (.iconst 5, 1) := by decide +kernel
theorem dX8_isLate_29 : decode cX8_isLate 29 = .ok (.if_icmp .lt 7, 3) := by decide +kernel
theorem dX8_isLate_32 : decode cX8_isLate 32 = .ok (.iconst 1, 1) := by decide +kernel
theorem dX8_isLate_33 : decode cX8_isLate 33 = .ok (.goto 25, 3) := by decide +kernel
theorem dX8_isLate_36 : decode cX8_isLate 36 = .ok (.iconst 0, 1) := by decide +kernel
theorem dX8_isLate_37 : decode cX8_isLate 37 = .ok (.goto 21, 3) := by decide +kernel
theorem dX8_isLate_40 : decode cX8_isLate 40 = .ok (.aload_n 1, 1) := by decide +kernel
theorem dX8_isLate_41 : decode cX8_isLate 41 = .ok (.getfield 251, 3) := by decide +kernel
theorem dX8_isLate_44 : decode cX8_isLate 44 = .ok (.ifCond .ne 13, 3) := by decide +kernel
theorem dX8_isLate_47 : decode cX8_isLate 47 = .ok (.iload_n 3, 1) := by decide +kernel
theorem dX8_isLate_48 : decode cX8_isLate 48 = .ok (.bipush 90, 2) := by decide +kernel
theorem dX8_isLate_50 : decode cX8_isLate 50 = .ok (.if_icmp .lt 7, 3) := by decide +kernel
theorem dX8_isLate_53 : decode cX8_isLate 53 = .ok (.iconst 1, 1) := by decide +kernel
theorem dX8_isLate_54 : decode cX8_isLate 54 = .ok (.goto 4, 3) := by decide +kernel
theorem dX8_isLate_57 : decode cX8_isLate 57 = .ok (.iconst 0, 1) := by decide +kernel
theorem dX8_isLate_58 : decode cX8_isLate 58 = .ok (.ireturn, 1) := by decide +kernel
theorem dX8_item_0 : decode cX8_item 0 = .ok (.aload_n 0, 1) := by decide +kernel
theorem dX8_item_1 : decode cX8_item 1 = .ok (.iload_n 1, 1) := by decide +kernel
theorem dX8_item_2 : decode cX8_item 2 = .ok (.invokevirtual 311, 3) := by decide +kernel
theorem dX8_item_5 : decode cX8_item 5 = .ok (.astore_n 3, 1) := by decide +kernel
theorem dX8_item_6 : decode cX8_item 6 = .ok (.iload_n 2, 1) := by decide +kernel
theorem dX8_item_7 : decode cX8_item 7 = .ok (.tableswitch 85 0 4 #[33, 38, 43, 48, 80], 33) := by decide +kernel
theorem dX8_item_40 : decode cX8_item 40 = .ok (.aload_n 3, 1) := by decide +kernel
theorem dX8_item_41 : decode cX8_item 41 = .ok (.getfield 315, 3) := by decide +kernel
theorem dX8_item_44 : decode cX8_item 44 = .ok (.ireturn, 1) := by decide +kernel
theorem dX8_item_45 : decode cX8_item 45 = .ok (.aload_n 3, 1) := by decide +kernel
theorem dX8_item_46 : decode cX8_item 46 = .ok (.getfield 318, 3) := by decide +kernel
theorem dX8_item_49 : decode cX8_item 49 = .ok (.ireturn, 1) := by decide +kernel
theorem dX8_item_50 : decode cX8_item 50 = .ok (.aload_n 3, 1) := by decide +kernel
theorem dX8_item_51 : decode cX8_item 51 = .ok (.getfield 321, 3) := by decide +kernel
theorem dX8_item_54 : decode cX8_item 54 = .ok (.ireturn, 1) := by decide +kernel
theorem dX8_item_55 : decode cX8_item 55 = .ok (.aload_n 3, 1) := by decide +kernel
theorem dX8_item_56 : decode cX8_item 56 = .ok (.getfield 321, 3) := by decide +kernel
theorem dX8_item_59 : decode cX8_item 59 = .ok (.ifCond .ne 11, 3) := by decide +kernel
theorem dX8_item_62 : decode cX8_item 62 = .ok (.aload_n 0, 1) := by decide +kernel
theorem dX8_item_63 : decode cX8_item 63 = .ok (.aload_n 3, 1) := by decide +kernel
theorem dX8_item_64 : decode cX8_item 64 = .ok (.invokevirtual 324, 3) := by decide +kernel
theorem dX8_item_67 : decode cX8_item 67 = .ok (.goto 19, 3) := by decide +kernel
theorem dX8_item_70 : decode cX8_item 70 = .ok (.aload_n 3, 1) := by decide +kernel
theorem dX8_item_71 : decode cX8_item 71 = .ok (.getfield 321, 3) := by decide +kernel
theorem dX8_item_74 : decode cX8_item 74 = .ok (.iconst 1, 1) := by decide +kernel
theorem dX8_item_75 : decode cX8_item 75 = .ok (.if_icmp .ne 10, 3) := by decide +kernel
theorem dX8_item_78 : decode cX8_item 78 = .ok (.aload_n 3, 1) := by decide +kernel
theorem dX8_item_79 : decode cX8_item 79 = .ok (.getfield 327, 3) := by decide +kernel
theorem dX8_item_82 : decode cX8_item 82 = .ok (.goto 4, 3) := by decide +kernel
theorem dX8_item_85 : decode cX8_item 85 = .ok (.iconst 0, 1) := by decide +kernel
theorem dX8_item_86 : decode cX8_item 86 = .ok (.ireturn, 1) := by decide +kernel
theorem dX8_item_87 : decode cX8_item 87 = .ok (.aload_n 3, 1) := by decide +kernel
theorem dX8_item_88 : decode cX8_item 88 = .ok (.getfield 330, 3) := by decide +kernel
theorem dX8_item_91 : decode cX8_item 91 = .ok (.ireturn, 1) := by decide +kernel
theorem dX8_item_92 : decode cX8_item 92 = .ok (.new 84, 3) := by decide +kernel
theorem dX8_item_95 : decode cX8_item 95 = .ok (.dup, 1) := by decide +kernel
theorem dX8_item_96 : decode cX8_item 96 = .ok (.ldc 172, 2) := by decide +kernel
theorem dX8_item_98 : decode cX8_item 98 = .ok (.invokespecial 88, 3) := by decide +kernel
theorem dX8_item_101 : decode cX8_item 101 = .ok (.athrow, 1) := by decide +kernel
theorem dX8_find_0 : decode cX8_find 0 = .ok (.iload_n 1, 1) := by decide +kernel
theorem dX8_find_1 : decode cX8_find 1 = .ok (.ifCond .lt 9, 3) := by decide +kernel
theorem dX8_find_4 : decode cX8_find 4 = .ok (.iload_n 1, 1) := by decide +kernel
theorem dX8_find_5 : decode cX8_find 5 = .ok (.bipush 99, 2) := by decide +kernel
theorem dX8_find_7 : decode cX8_find 7 = .ok (.if_icmp .le 14, 3) := by decide +kernel
theorem dX8_find_10 : decode cX8_find 10 = .ok (.new 84, 3) := by decide +kernel
theorem dX8_find_13 : decode cX8_find 13 = .ok (.dup, 1) := by decide +kernel
theorem dX8_find_14 : decode cX8_find 14 = .ok (.ldc_w 333, 3) := by decide +kernel
theorem dX8_find_17 : decode cX8_find 17 = .ok (.invokespecial 88, 3) := by decide +kernel
theorem dX8_find_20 : decode cX8_find 20 = .ok (.athrow, 1) := by decide +kernel
theorem dX8_find_21 : decode cX8_find 21 = .ok (.aload_n 0, 1) := by decide +kernel
theorem dX8_find_22 : decode cX8_find 22 = .ok (.getfield 40, 3) := by decide +kernel
theorem dX8_find_25 : decode cX8_find 25 = .ok (.invokevirtual 335, 3) := by decide +kernel
theorem dX8_find_28 : decode cX8_find 28 = .ok (.iconst 0, 1) := by decide +kernel
theorem dX8_find_29 : decode cX8_find 29 = .ok (.istore 5, 2) := by decide +kernel
theorem dX8_find_31 : decode cX8_find 31 = .ok (.iload 5, 2) := by decide +kernel
theorem dX8_find_33 : decode cX8_find 33 = .ok (.aload_n 0, 1) := by decide +kernel
theorem dX8_find_34 : decode cX8_find 34 = .ok (.getfield 67, 3) := by decide +kernel
theorem dX8_find_37 : decode cX8_find 37 = .ok (.if_icmp .ge 83, 3) := by decide +kernel
theorem dX8_find_40 : decode cX8_find 40 = .ok (.aload_n 0, 1) := by decide +kernel
theorem dX8_find_41 : decode cX8_find 41 = .ok (.iload 5, 2) := by decide +kernel
theorem dX8_find_43 : decode cX8_find 43 = .ok (.invokevirtual 338, 3) := by decide +kernel
theorem dX8_find_46 : decode cX8_find 46 = .ok (.astore 6, 2) := by decide +kernel
theorem dX8_find_48 : decode cX8_find 48 = .ok (.aload 6, 2) := by decide +kernel
theorem dX8_find_50 : decode cX8_find 50 = .ok (.ifnull 64, 3) := by decide +kernel
theorem dX8_find_53 : decode cX8_find 53 = .ok (.aload 6, 2) := by decide +kernel
theorem dX8_find_55 : decode cX8_find 55 = .ok (.getfield 321, 3) := by decide +kernel
theorem dX8_find_58 : decode cX8_find 58 = .ok (.ifCond .ne 56, 3) := by decide +kernel
theorem dX8_find_61 : decode cX8_find 61 = .ok (.aload_n 0, 1) := by decide +kernel
theorem dX8_find_62 : decode cX8_find 62 = .ok (.aload 6, 2) := by decide +kernel
theorem dX8_find_64 : decode cX8_find 64 = .ok (.iconst 1, 1) := by decide +kernel
theorem dX8_find_65 : decode cX8_find 65 = .ok (.invokevirtual 341, 3) := by decide +kernel
theorem dX8_find_68 : decode cX8_find 68 = .ok (.iload_n 1, 1) := by decide +kernel
theorem dX8_find_69 : decode cX8_find 69 = .ok (.if_icmp .ne 45, 3) := by decide +kernel
theorem dX8_find_72 : decode cX8_find 72 = .ok (.aload_n 0, 1) := by decide +kernel
theorem dX8_find_73 : decode cX8_find 73 = .ok (.aload 6, 2) := by decide +kernel
theorem dX8_find_75 : decode cX8_find 75 = .ok (.iload_n 2, 1) := by decide +kernel
theorem dX8_find_76 : decode cX8_find 76 = .ok (.iload_n 3, 1) := by decide +kernel
theorem dX8_find_77 : decode cX8_find 77 = .ok (.iload 4, 2) := by decide +kernel
theorem dX8_find_79 : decode cX8_find 79 = .ok (.invokevirtual 344, 3) := by decide +kernel
theorem dX8_find_82 : decode cX8_find 82 = .ok (.ifCond .eq 32, 3) := by decide +kernel
theorem dX8_find_85 : decode cX8_find 85 = .ok (.aload_n 0, 1) := by decide +kernel
theorem dX8_find_86 : decode cX8_find 86 = .ok (.getfield 40, 3) := by decide +kernel
theorem dX8_find_89 : decode cX8_find 89 = .ok (.iload 5, 2) := by decide +kernel
theorem dX8_find_91 : decode cX8_find 91 = .ok (.aload 6, 2) := by decide +kernel
theorem dX8_find_93 : decode cX8_find 93 = .ok (.getfield 348, 3) := by decide +kernel
theorem dX8_find_96 : decode cX8_find 96 = .ok (.iload_n 2, 1) := by decide +kernel
theorem dX8_find_97 : decode cX8_find 97 = .ok (.if_icmp .ne 7, 3) := by decide +kernel
theorem dX8_find_100 : decode cX8_find 100 = .ok (.iconst 1, 1) := by decide +kernel
theorem dX8_find_101 : decode cX8_find 101 = .ok (.goto 4, 3) := by decide +kernel
theorem dX8_find_104 : decode cX8_find 104 = .ok (.iconst 0, 1) := by decide +kernel
theorem dX8_find_105 : decode cX8_find 105 = .ok (.aload_n 0, 1) := by decide +kernel
theorem dX8_find_106 : decode cX8_find 106 = .ok (.aload 6, 2) := by decide +kernel
theorem dX8_find_108 : decode cX8_find 108 = .ok (.invokevirtual 324, 3) := by decide +kernel
theorem dX8_find_111 : decode cX8_find 111 = .ok (.invokevirtual 349, 3) := by decide +kernel
theorem dX8_find_114 : decode cX8_find 114 = .ok (.iinc 5 1, 3) := by decide +kernel
theorem dX8_find_117 : decode cX8_find 117 = .ok (.goto (-86), 3) := by decide +kernel
theorem dX8_find_120 : decode cX8_find 120 = .ok (.aload_n 0, 1) := by decide +kernel
theorem dX8_find_121 : decode cX8_find 121 = .ok (.getfield 40, 3) := by decide +kernel
theorem dX8_find_124 : decode cX8_find 124 = .ok (.invokevirtual 353, 3) := by decide +kernel
theorem dX8_find_127 : decode cX8_find 127 = .ok (.ireturn, 1) := by decide +kernel
theorem dX8_found_0 : decode cX8_found 0 = .ok (.aload_n 0, 1) := by decide +kernel
theorem dX8_found_1 : decode cX8_found 1 = .ok (.getfield 40, 3) := by decide +kernel
theorem dX8_found_4 : decode cX8_found 4 = .ok (.iload_n 1, 1) := by decide +kernel
theorem dX8_found_5 : decode cX8_found 5 = .ok (.invokevirtual 356, 3) := by decide +kernel
theorem dX8_found_8 : decode cX8_found 8 = .ok (.ireturn, 1) := by decide +kernel
theorem dX8_itemAt_0 : decode cX8_itemAt 0 = .ok (.iload_n 1, 1) := by decide +kernel
theorem dX8_itemAt_1 : decode cX8_itemAt 1 = .ok (.ifCond .lt 29, 3) := by decide +kernel
theorem dX8_itemAt_4 : decode cX8_itemAt 4 = .ok (.iload_n 1, 1) := by decide +kernel
theorem dX8_itemAt_5 : decode cX8_itemAt 5 = .ok (.aload_n 0, 1) := by decide +kernel
theorem dX8_itemAt_6 : decode cX8_itemAt 6 = .ok (.getfield 67, 3) := by decide +kernel
theorem dX8_itemAt_9 : decode cX8_itemAt 9 = .ok (.if_icmp .ge 21, 3) := by decide +kernel
theorem dX8_itemAt_12 : decode cX8_itemAt 12 = .ok (.iload_n 1, 1) := by decide +kernel
theorem dX8_itemAt_13 : decode cX8_itemAt 13 = .ok (.aload_n 0, 1) := by decide +kernel
theorem dX8_itemAt_14 : decode cX8_itemAt 14 = .ok (.getfield 52, 3) := by decide +kernel
theorem dX8_itemAt_17 : decode cX8_itemAt 17 = .ok (.arraylength, 1) := by decide +kernel
theorem dX8_itemAt_18 : decode cX8_itemAt 18 = .ok (.if_icmp .ge 12, 3) := by decide +kernel
theorem dX8_itemAt_21 : decode cX8_itemAt 21 = .ok (.aload_n 0, 1) := by decide +kernel
theorem dX8_itemAt_22 : decode cX8_itemAt 22 = .ok (.getfield 52, 3) := by decide +kernel
theorem dX8_itemAt_25 : decode cX8_itemAt 25 = .ok (.iload_n 1, 1) := by decide +kernel
theorem dX8_itemAt_26 : decode cX8_itemAt 26 = .ok (.aaload, 1) := by decide +kernel
theorem dX8_itemAt_27 : decode cX8_itemAt 27 = .ok (.goto 4, 3) := by decide +kernel
theorem dX8_itemAt_30 : decode cX8_itemAt 30 = .ok (.aconst_null, 1) := by decide +kernel
theorem dX8_itemAt_31 : decode cX8_itemAt 31 = .ok (.areturn, 1) := by decide +kernel
theorem dX8_itemOf_0 : decode cX8_itemOf 0 = .ok (.aload_n 0, 1) := by decide +kernel
theorem dX8_itemOf_1 : decode cX8_itemOf 1 = .ok (.iload_n 1, 1) := by decide +kernel
theorem dX8_itemOf_2 : decode cX8_itemOf 2 = .ok (.invokevirtual 338, 3) := by decide +kernel
theorem dX8_itemOf_5 : decode cX8_itemOf 5 = .ok (.astore_n 2, 1) := by decide +kernel
theorem dX8_itemOf_6 : decode cX8_itemOf 6 = .ok (.aload_n 2, 1) := by decide +kernel
theorem dX8_itemOf_7 : decode cX8_itemOf 7 = .ok (.ifnonnull 14, 3) := by decide +kernel
theorem dX8_itemOf_10 : decode cX8_itemOf 10 = .ok (.new 167, 3) := by decide +kernel
theorem dX8_itemOf_13 : decode cX8_itemOf 13 = .ok (.dup, 1) := by decide +kernel
theorem dX8_itemOf_14 : decode cX8_itemOf 14 = .ok (.ldc_w 359, 3) := by decide +kernel
theorem dX8_itemOf_17 : decode cX8_itemOf 17 = .ok (.invokespecial 171, 3) := by decide +kernel
theorem dX8_itemOf_20 : decode cX8_itemOf 20 = .ok (.athrow, 1) := by decide +kernel
theorem dX8_itemOf_21 : decode cX8_itemOf 21 = .ok (.aload_n 2, 1) := by decide +kernel
theorem dX8_itemOf_22 : decode cX8_itemOf 22 = .ok (.areturn, 1) := by decide +kernel
theorem dX8_addItem_0 : decode cX8_addItem 0 = .ok (.aload_n 0, 1) := by decide +kernel
theorem dX8_addItem_1 : decode cX8_addItem 1 = .ok (.getfield 67, 3) := by decide +kernel
theorem dX8_addItem_4 : decode cX8_addItem 4 = .ok (.ifCond .lt 15, 3) := by decide +kernel
theorem dX8_addItem_7 : decode cX8_addItem 7 = .ok (.aload_n 0, 1) := by decide +kernel
theorem dX8_addItem_8 : decode cX8_addItem 8 = .ok (.getfield 67, 3) := by decide +kernel
theorem dX8_addItem_11 : decode cX8_addItem 11 = .ok (.aload_n 0, 1) := by decide +kernel
theorem dX8_addItem_12 : decode cX8_addItem 12 = .ok (.getfield 52, 3) := by decide +kernel
theorem dX8_addItem_15 : decode cX8_addItem 15 = .ok (.arraylength, 1) := by decide +kernel
theorem dX8_addItem_16 : decode cX8_addItem 16 = .ok (.if_icmp .lt 5, 3) := by decide +kernel
theorem dX8_addItem_19 : decode cX8_addItem 19 = .ok (.iconst (-1), 1) := by decide +kernel
theorem dX8_addItem_20 : decode cX8_addItem 20 = .ok (.ireturn, 1) := by decide +kernel
theorem dX8_addItem_21 : decode cX8_addItem 21 = .ok (.aload_n 0, 1) := by decide +kernel
theorem dX8_addItem_22 : decode cX8_addItem 22 = .ok (.getfield 52, 3) := by decide +kernel
theorem dX8_addItem_25 : decode cX8_addItem 25 = .ok (.aload_n 0, 1) := by decide +kernel
theorem dX8_addItem_26 : decode cX8_addItem 26 = .ok (.getfield 67, 3) := by decide +kernel
theorem dX8_addItem_29 : decode cX8_addItem 29 = .ok (.aload_n 1, 1) := by decide +kernel
theorem dX8_addItem_30 : decode cX8_addItem 30 = .ok (.aastore, 1) := by decide +kernel
theorem dX8_addItem_31 : decode cX8_addItem 31 = .ok (.aload_n 0, 1) := by decide +kernel
theorem dX8_addItem_32 : decode cX8_addItem 32 = .ok (.dup, 1) := by decide +kernel
theorem dX8_addItem_33 : decode cX8_addItem 33 = .ok (.getfield 67, 3) := by decide +kernel
theorem dX8_addItem_36 : decode cX8_addItem 36 = .ok (.iconst 1, 1) := by decide +kernel
theorem dX8_addItem_37 : decode cX8_addItem 37 = .ok (.iadd, 1) := by decide +kernel
theorem dX8_addItem_38 : decode cX8_addItem 38 = .ok (.putfield 67, 3) := by decide +kernel
theorem dX8_addItem_41 : decode cX8_addItem 41 = .ok (.aload_n 0, 1) := by decide +kernel
theorem dX8_addItem_42 : decode cX8_addItem 42 = .ok (.aload_n 1, 1) := by decide +kernel
theorem dX8_addItem_43 : decode cX8_addItem 43 = .ok (.iconst 0, 1) := by decide +kernel
theorem dX8_addItem_44 : decode cX8_addItem 44 = .ok (.invokevirtual 361, 3) := by decide +kernel
theorem dX8_addItem_47 : decode cX8_addItem 47 = .ok (.aload_n 0, 1) := by decide +kernel
theorem dX8_addItem_48 : decode cX8_addItem 48 = .ok (.getfield 67, 3) := by decide +kernel
theorem dX8_addItem_51 : decode cX8_addItem 51 = .ok (.iconst 1, 1) := by decide +kernel
theorem dX8_addItem_52 : decode cX8_addItem 52 = .ok (.isub, 1) := by decide +kernel
theorem dX8_addItem_53 : decode cX8_addItem 53 = .ok (.ireturn, 1) := by decide +kernel
theorem dX8_factOf_0 : decode cX8_factOf 0 = .ok (.aload_n 0, 1) := by decide +kernel
theorem dX8_factOf_1 : decode cX8_factOf 1 = .ok (.getfield 26, 3) := by decide +kernel
theorem dX8_factOf_4 : decode cX8_factOf 4 = .ok (.aload_n 1, 1) := by decide +kernel
theorem dX8_factOf_5 : decode cX8_factOf 5 = .ok (.getfield 348, 3) := by decide +kernel
theorem dX8_factOf_8 : decode cX8_factOf 8 = .ok (.aload_n 1, 1) := by decide +kernel
theorem dX8_factOf_9 : decode cX8_factOf 9 = .ok (.getfield 318, 3) := by decide +kernel
theorem dX8_factOf_12 : decode cX8_factOf 12 = .ok (.iload_n 2, 1) := by decide +kernel
theorem dX8_factOf_13 : decode cX8_factOf 13 = .ok (.invokevirtual 174, 3) := by decide +kernel
theorem dX8_factOf_16 : decode cX8_factOf 16 = .ok (.ireturn, 1) := by decide +kernel
theorem dX8_standsFor_0 : decode cX8_standsFor 0 = .ok (.aload_n 0, 1) := by decide +kernel
theorem dX8_standsFor_1 : decode cX8_standsFor 1 = .ok (.aload_n 1, 1) := by decide +kernel
theorem dX8_standsFor_2 : decode cX8_standsFor 2 = .ok (.bipush 7, 2) := by decide +kernel
theorem dX8_standsFor_4 : decode cX8_standsFor 4 = .ok (.invokevirtual 341, 3) := by decide +kernel
theorem dX8_standsFor_7 : decode cX8_standsFor 7 = .ok (.istore 5, 2) := by decide +kernel
theorem dX8_standsFor_9 : decode cX8_standsFor 9 = .ok (.iload 5, 2) := by decide +kernel
theorem dX8_standsFor_11 : decode cX8_standsFor 11 = .ok (.iconst (-1), 1) := by decide +kernel
theorem dX8_standsFor_12 : decode cX8_standsFor 12 = .ok (.if_icmp .ne 19, 3) := by decide +kernel
theorem dX8_standsFor_15 : decode cX8_standsFor 15 = .ok (.aload_n 1, 1) := by decide +kernel
theorem dX8_standsFor_16 : decode cX8_standsFor 16 = .ok (.getfield 348, 3) := by decide +kernel
theorem dX8_standsFor_19 : decode cX8_standsFor 19 = .ok (.iload_n 2, 1) := by decide +kernel
theorem dX8_standsFor_20 : decode cX8_standsFor 20 = .ok (.if_icmp .ne 7, 3) := by decide +kernel
theorem dX8_standsFor_23 : decode cX8_standsFor 23 = .ok (.iconst 1, 1) := by decide +kernel
theorem dX8_standsFor_24 : decode cX8_standsFor 24 = .ok (.goto 20, 3) := by decide +kernel
theorem dX8_standsFor_27 : decode cX8_standsFor 27 = .ok (.iconst 0, 1) := by decide +kernel
theorem dX8_standsFor_28 : decode cX8_standsFor 28 = .ok (.goto 16, 3) := by decide +kernel
theorem dX8_standsFor_31 : decode cX8_standsFor 31 = .ok (.aload_n 0, 1) := by decide +kernel
theorem dX8_standsFor_32 : decode cX8_standsFor 32 = .ok (.getfield 19, 3) := by decide +kernel
theorem dX8_standsFor_35 : decode cX8_standsFor 35 = .ok (.iload 5, 2) := by decide +kernel
theorem dX8_standsFor_37 : decode cX8_standsFor 37 = .ok (.iload_n 2, 1) := by decide +kernel
theorem dX8_standsFor_38 : decode cX8_standsFor 38 = .ok (.iload_n 3, 1) := by decide +kernel
theorem dX8_standsFor_39 : decode cX8_standsFor 39 = .ok (.iload 4, 2) := by decide +kernel
theorem dX8_standsFor_41 : decode cX8_standsFor 41 = .ok (.invokevirtual 145, 3) := by decide +kernel
theorem dX8_standsFor_44 : decode cX8_standsFor 44 = .ok (.ireturn, 1) := by decide +kernel
theorem dX8_valueOf_0 : decode cX8_valueOf 0 = .ok (.aload_n 0, 1) := by decide +kernel
theorem dX8_valueOf_1 : decode cX8_valueOf 1 = .ok (.aload_n 1, 1) := by decide +kernel
theorem dX8_valueOf_2 : decode cX8_valueOf 2 = .ok (.bipush 6, 2) := by decide +kernel
theorem dX8_valueOf_4 : decode cX8_valueOf 4 = .ok (.invokevirtual 341, 3) := by decide +kernel
theorem dX8_valueOf_7 : decode cX8_valueOf 7 = .ok (.istore_n 2, 1) := by decide +kernel
theorem dX8_valueOf_8 : decode cX8_valueOf 8 = .ok (.aload_n 0, 1) := by decide +kernel
theorem dX8_valueOf_9 : decode cX8_valueOf 9 = .ok (.aload_n 1, 1) := by decide +kernel
theorem dX8_valueOf_10 : decode cX8_valueOf 10 = .ok (.iconst 0, 1) := by decide +kernel
theorem dX8_valueOf_11 : decode cX8_valueOf 11 = .ok (.invokevirtual 341, 3) := by decide +kernel
theorem dX8_valueOf_14 : decode cX8_valueOf 14 = .ok (.iconst 2, 1) := by decide +kernel
theorem dX8_valueOf_15 : decode cX8_valueOf 15 = .ok (.if_icmp .ne 9, 3) := by decide +kernel
theorem dX8_valueOf_18 : decode cX8_valueOf 18 = .ok (.iload_n 2, 1) := by decide +kernel
theorem dX8_valueOf_19 : decode cX8_valueOf 19 = .ok (.iconst 2, 1) := by decide +kernel
theorem dX8_valueOf_20 : decode cX8_valueOf 20 = .ok (.idiv, 1) := by decide +kernel
theorem dX8_valueOf_21 : decode cX8_valueOf 21 = .ok (.goto 4, 3) := by decide +kernel
theorem dX8_valueOf_24 : decode cX8_valueOf 24 = .ok (.iload_n 2, 1) := by decide +kernel
theorem dX8_valueOf_25 : decode cX8_valueOf 25 = .ok (.istore_n 3, 1) := by decide +kernel
theorem dX8_valueOf_26 : decode cX8_valueOf 26 = .ok (.aload_n 0, 1) := by decide +kernel
theorem dX8_valueOf_27 : decode cX8_valueOf 27 = .ok (.getfield 73, 3) := by decide +kernel
theorem dX8_valueOf_30 : decode cX8_valueOf 30 = .ok (.aload_n 1, 1) := by decide +kernel
theorem dX8_valueOf_31 : decode cX8_valueOf 31 = .ok (.getfield 330, 3) := by decide +kernel
theorem dX8_valueOf_34 : decode cX8_valueOf 34 = .ok (.isub, 1) := by decide +kernel
theorem dX8_valueOf_35 : decode cX8_valueOf 35 = .ok (.bipush 30, 2) := by decide +kernel
theorem dX8_valueOf_37 : decode cX8_valueOf 37 = .ok (.idiv, 1) := by decide +kernel
theorem dX8_valueOf_38 : decode cX8_valueOf 38 = .ok (.bipush 24, 2) := by decide +kernel
theorem dX8_valueOf_40 : decode cX8_valueOf 40 = .ok (.invokestatic 365, 3) := by decide +kernel
theorem dX8_valueOf_43 : decode cX8_valueOf 43 = .ok (.istore 4, 2) := by decide +kernel
theorem dX8_valueOf_45 : decode cX8_valueOf 45 = .ok (.iconst 0, 1) := by decide +kernel
theorem dX8_valueOf_46 : decode cX8_valueOf 46 = .ok (.istore 5, 2) := by decide +kernel
theorem dX8_valueOf_48 : decode cX8_valueOf 48 = .ok (.iload 5, 2) := by decide +kernel
theorem dX8_valueOf_50 : decode cX8_valueOf 50 = .ok (.iload 4, 2) := by decide +kernel
theorem dX8_valueOf_52 : decode cX8_valueOf 52 = .ok (.if_icmp .ge 16, 3) := by decide +kernel
theorem dX8_valueOf_55 : decode cX8_valueOf 55 = .ok (.iload_n 3, 1) := by decide +kernel
theorem dX8_valueOf_56 : decode cX8_valueOf 56 = .ok (.iload_n 3, 1) := by decide +kernel
theorem dX8_valueOf_57 : decode cX8_valueOf 57 = .ok (.bipush 8, 2) := by decide +kernel
theorem dX8_valueOf_59 : decode cX8_valueOf 59 = .ok (.idiv, 1) := by decide +kernel
theorem dX8_valueOf_60 : decode cX8_valueOf 60 = .ok (.isub, 1) := by decide +kernel
theorem dX8_valueOf_61 : decode cX8_valueOf 61 = .ok (.istore_n 3, 1) := by decide +kernel
theorem dX8_valueOf_62 : decode cX8_valueOf 62 = .ok (.iinc 5 1, 3) := by decide +kernel
theorem dX8_valueOf_65 : decode cX8_valueOf 65 = .ok (.goto (-17), 3) := by decide +kernel
theorem dX8_valueOf_68 : decode cX8_valueOf 68 = .ok (.iload_n 3, 1) := by decide +kernel
theorem dX8_valueOf_69 : decode cX8_valueOf 69 = .ok (.ireturn, 1) := by decide +kernel
theorem dX8_move_0 : decode cX8_move 0 = .ok (.aload_n 0, 1) := by decide +kernel
theorem dX8_move_1 : decode cX8_move 1 = .ok (.aload_n 1, 1) := by decide +kernel
theorem dX8_move_2 : decode cX8_move 2 = .ok (.getfield 348, 3) := by decide +kernel
theorem dX8_move_5 : decode cX8_move 5 = .ok (.aload_n 1, 1) := by decide +kernel
theorem dX8_move_6 : decode cX8_move 6 = .ok (.getfield 318, 3) := by decide +kernel
theorem dX8_move_9 : decode cX8_move 9 = .ok (.aload_n 1, 1) := by decide +kernel
theorem dX8_move_10 : decode cX8_move 10 = .ok (.getfield 321, 3) := by decide +kernel
theorem dX8_move_13 : decode cX8_move 13 = .ok (.invokestatic 370, 3) := by decide +kernel
theorem dX8_move_16 : decode cX8_move 16 = .ok (.iconst (-1), 1) := by decide +kernel
theorem dX8_move_17 : decode cX8_move 17 = .ok (.invokevirtual 273, 3) := by decide +kernel
theorem dX8_move_20 : decode cX8_move 20 = .ok (.aload_n 0, 1) := by decide +kernel
theorem dX8_move_21 : decode cX8_move 21 = .ok (.aload_n 1, 1) := by decide +kernel
theorem dX8_move_22 : decode cX8_move 22 = .ok (.getfield 348, 3) := by decide +kernel
theorem dX8_move_25 : decode cX8_move 25 = .ok (.aload_n 1, 1) := by decide +kernel
theorem dX8_move_26 : decode cX8_move 26 = .ok (.getfield 318, 3) := by decide +kernel
theorem dX8_move_29 : decode cX8_move 29 = .ok (.iload_n 2, 1) := by decide +kernel
theorem dX8_move_30 : decode cX8_move 30 = .ok (.invokestatic 370, 3) := by decide +kernel
theorem dX8_move_33 : decode cX8_move 33 = .ok (.iconst 1, 1) := by decide +kernel
theorem dX8_move_34 : decode cX8_move 34 = .ok (.invokevirtual 273, 3) := by decide +kernel
theorem dX8_move_37 : decode cX8_move 37 = .ok (.aload_n 1, 1) := by decide +kernel
theorem dX8_move_38 : decode cX8_move 38 = .ok (.getfield 321, 3) := by decide +kernel
theorem dX8_move_41 : decode cX8_move 41 = .ok (.ifCond .ne 13, 3) := by decide +kernel
theorem dX8_move_44 : decode cX8_move 44 = .ok (.aload_n 0, 1) := by decide +kernel
theorem dX8_move_45 : decode cX8_move 45 = .ok (.dup, 1) := by decide +kernel
theorem dX8_move_46 : decode cX8_move 46 = .ok (.getfield 70, 3) := by decide +kernel
theorem dX8_move_49 : decode cX8_move 49 = .ok (.iconst 1, 1) := by decide +kernel
theorem dX8_move_50 : decode cX8_move 50 = .ok (.isub, 1) := by decide +kernel
theorem dX8_move_51 : decode cX8_move 51 = .ok (.putfield 70, 3) := by decide +kernel
theorem dX8_move_54 : decode cX8_move 54 = .ok (.iload_n 2, 1) := by decide +kernel
theorem dX8_move_55 : decode cX8_move 55 = .ok (.ifCond .ne 13, 3) := by decide +kernel
theorem dX8_move_58 : decode cX8_move 58 = .ok (.aload_n 0, 1) := by decide +kernel
theorem dX8_move_59 : decode cX8_move 59 = .ok (.dup, 1) := by decide +kernel
theorem dX8_move_60 : decode cX8_move 60 = .ok (.getfield 70, 3) := by decide +kernel
theorem dX8_move_63 : decode cX8_move 63 = .ok (.iconst 1, 1) := by decide +kernel
theorem dX8_move_64 : decode cX8_move 64 = .ok (.iadd, 1) := by decide +kernel
theorem dX8_move_65 : decode cX8_move 65 = .ok (.putfield 70, 3) := by decide +kernel
theorem dX8_move_68 : decode cX8_move 68 = .ok (.aload_n 1, 1) := by decide +kernel
theorem dX8_move_69 : decode cX8_move 69 = .ok (.iload_n 2, 1) := by decide +kernel
theorem dX8_move_70 : decode cX8_move 70 = .ok (.putfield 321, 3) := by decide +kernel
theorem dX8_move_73 : decode cX8_move 73 = .ok (.aload_n 1, 1) := by decide +kernel
theorem dX8_move_74 : decode cX8_move 74 = .ok (.aload_n 0, 1) := by decide +kernel
theorem dX8_move_75 : decode cX8_move 75 = .ok (.getfield 73, 3) := by decide +kernel
theorem dX8_move_78 : decode cX8_move 78 = .ok (.putfield 330, 3) := by decide +kernel
theorem dX8_move_81 : decode cX8_move 81 = .ok (.return_, 1) := by decide +kernel
theorem dX8_gateOf_0 : decode cX8_gateOf 0 = .ok (.iload_n 0, 1) := by decide +kernel
theorem dX8_gateOf_1 : decode cX8_gateOf 1 = .ok (.tableswitch 33 0 2 #[27, 29, 31], 27) := by decide +kernel
theorem dX8_gateOf_28 : decode cX8_gateOf 28 = .ok (.iconst 2, 1) := by decide +kernel
theorem dX8_gateOf_29 : decode cX8_gateOf 29 = .ok (.ireturn, 1) := by decide +kernel
theorem dX8_gateOf_30 : decode cX8_gateOf 30 = .ok (.iconst 3, 1) := by decide +kernel
theorem dX8_gateOf_31 : decode cX8_gateOf 31 = .ok (.ireturn, 1) := by decide +kernel
theorem dX8_gateOf_32 : decode cX8_gateOf 32 = .ok (.iconst 5, 1) := by decide +kernel
theorem dX8_gateOf_33 : decode cX8_gateOf 33 = .ok (.ireturn, 1) := by decide +kernel
theorem dX8_gateOf_34 : decode cX8_gateOf 34 = .ok (.iconst 1, 1) := by decide +kernel
theorem dX8_gateOf_35 : decode cX8_gateOf 35 = .ok (.ireturn, 1) := by decide +kernel
theorem dX8_sell_0 : decode cX8_sell 0 = .ok (.aload_n 0, 1) := by decide +kernel
theorem dX8_sell_1 : decode cX8_sell 1 = .ok (.iload_n 1, 1) := by decide +kernel
theorem dX8_sell_2 : decode cX8_sell 2 = .ok (.invokevirtual 311, 3) := by decide +kernel
theorem dX8_sell_5 : decode cX8_sell 5 = .ok (.astore_n 3, 1) := by decide +kernel
theorem dX8_sell_6 : decode cX8_sell 6 = .ok (.iload_n 2, 1) := by decide +kernel
theorem dX8_sell_7 : decode cX8_sell 7 = .ok (.ifCond .eq 19, 3) := by decide +kernel
theorem dX8_sell_10 : decode cX8_sell 10 = .ok (.iload_n 2, 1) := by decide +kernel
theorem dX8_sell_11 : decode cX8_sell 11 = .ok (.iconst 1, 1) := by decide +kernel
theorem dX8_sell_12 : decode cX8_sell 12 = .ok (.if_icmp .eq 14, 3) := by decide +kernel
theorem dX8_sell_15 : decode cX8_sell 15 = .ok (.new 84, 3) := by decide +kernel
theorem dX8_sell_18 : decode cX8_sell 18 = .ok (.dup, 1) := by decide +kernel
theorem dX8_sell_19 : decode cX8_sell 19 = .ok (.ldc_w 373, 3) := by decide +kernel
theorem dX8_sell_22 : decode cX8_sell 22 = .ok (.invokespecial 88, 3) := by decide +kernel
theorem dX8_sell_25 : decode cX8_sell 25 = .ok (.athrow, 1) := by decide +kernel
theorem dX8_sell_26 : decode cX8_sell 26 = .ok (.aload_n 3, 1) := by decide +kernel
theorem dX8_sell_27 : decode cX8_sell 27 = .ok (.getfield 321, 3) := by decide +kernel
theorem dX8_sell_30 : decode cX8_sell 30 = .ok (.ifCond .eq 5, 3) := by decide +kernel
theorem dX8_sell_33 : decode cX8_sell 33 = .ok (.iconst (-1), 1) := by decide +kernel
theorem dX8_sell_34 : decode cX8_sell 34 = .ok (.ireturn, 1) := by decide +kernel
theorem dX8_sell_35 : decode cX8_sell 35 = .ok (.aload_n 0, 1) := by decide +kernel
theorem dX8_sell_36 : decode cX8_sell 36 = .ok (.aload_n 3, 1) := by decide +kernel
theorem dX8_sell_37 : decode cX8_sell 37 = .ok (.iconst 0, 1) := by decide +kernel
theorem dX8_sell_38 : decode cX8_sell 38 = .ok (.invokevirtual 341, 3) := by decide +kernel
theorem dX8_sell_41 : decode cX8_sell 41 = .ok (.istore 4, 2) := by decide +kernel
theorem dX8_sell_43 : decode cX8_sell 43 = .ok (.iload 4, 2) := by decide +kernel
theorem dX8_sell_45 : decode cX8_sell 45 = .ok (.iconst 4, 1) := by decide +kernel
theorem dX8_sell_46 : decode cX8_sell 46 = .ok (.if_icmp .ne 10, 3) := by decide +kernel
theorem dX8_sell_49 : decode cX8_sell 49 = .ok (.iload_n 2, 1) := by decide +kernel
theorem dX8_sell_50 : decode cX8_sell 50 = .ok (.ifCond .ne 6, 3) := by decide +kernel
theorem dX8_sell_53 : decode cX8_sell 53 = .ok (.bipush (-2), 2) := by decide +kernel
theorem dX8_sell_55 : decode cX8_sell 55 = .ok (.ireturn, 1) := by decide +kernel
theorem dX8_sell_56 : decode cX8_sell 56 = .ok (.aload_n 0, 1) := by decide +kernel
theorem dX8_sell_57 : decode cX8_sell 57 = .ok (.getfield 33, 3) := by decide +kernel
theorem dX8_sell_60 : decode cX8_sell 60 = .ok (.invokevirtual 225, 3) := by decide +kernel
theorem dX8_sell_63 : decode cX8_sell 63 = .ok (.iload 4, 2) := by decide +kernel
theorem dX8_sell_65 : decode cX8_sell 65 = .ok (.iconst 1, 1) := by decide +kernel
theorem dX8_sell_66 : decode cX8_sell 66 = .ok (.if_icmp .eq 14, 3) := by decide +kernel
theorem dX8_sell_69 : decode cX8_sell 69 = .ok (.aload_n 0, 1) := by decide +kernel
theorem dX8_sell_70 : decode cX8_sell 70 = .ok (.aload_n 3, 1) := by decide +kernel
theorem dX8_sell_71 : decode cX8_sell 71 = .ok (.aload_n 0, 1) := by decide +kernel
theorem dX8_sell_72 : decode cX8_sell 72 = .ok (.aload_n 3, 1) := by decide +kernel
theorem dX8_sell_73 : decode cX8_sell 73 = .ok (.invokevirtual 324, 3) := by decide +kernel
theorem dX8_sell_76 : decode cX8_sell 76 = .ok (.invokevirtual 375, 3) := by decide +kernel
theorem dX8_sell_79 : decode cX8_sell 79 = .ok (.ireturn, 1) := by decide +kernel
theorem dX8_sell_80 : decode cX8_sell 80 = .ok (.aload_n 0, 1) := by decide +kernel
theorem dX8_sell_81 : decode cX8_sell 81 = .ok (.aload_n 3, 1) := by decide +kernel
theorem dX8_sell_82 : decode cX8_sell 82 = .ok (.invokevirtual 378, 3) := by decide +kernel
theorem dX8_sell_85 : decode cX8_sell 85 = .ok (.astore 5, 2) := by decide +kernel
theorem dX8_sell_87 : decode cX8_sell 87 = .ok (.aload 5, 2) := by decide +kernel
theorem dX8_sell_89 : decode cX8_sell 89 = .ok (.ifnonnull 16, 3) := by decide +kernel
theorem dX8_sell_92 : decode cX8_sell 92 = .ok (.aload_n 0, 1) := by decide +kernel
theorem dX8_sell_93 : decode cX8_sell 93 = .ok (.aload_n 3, 1) := by decide +kernel
theorem dX8_sell_94 : decode cX8_sell 94 = .ok (.aload_n 0, 1) := by decide +kernel
theorem dX8_sell_95 : decode cX8_sell 95 = .ok (.aload_n 3, 1) := by decide +kernel
theorem dX8_sell_96 : decode cX8_sell 96 = .ok (.invokevirtual 324, 3) := by decide +kernel
theorem dX8_sell_99 : decode cX8_sell 99 = .ok (.iconst 2, 1) := by decide +kernel
theorem dX8_sell_100 : decode cX8_sell 100 = .ok (.idiv, 1) := by decide +kernel
theorem dX8_sell_101 : decode cX8_sell 101 = .ok (.invokevirtual 375, 3) := by decide +kernel
theorem dX8_sell_104 : decode cX8_sell 104 = .ok (.ireturn, 1) := by decide +kernel
theorem dX8_sell_105 : decode cX8_sell 105 = .ok (.aload_n 0, 1) := by decide +kernel
theorem dX8_sell_106 : decode cX8_sell 106 = .ok (.aload_n 3, 1) := by decide +kernel
theorem dX8_sell_107 : decode cX8_sell 107 = .ok (.aload_n 0, 1) := by decide +kernel
theorem dX8_sell_108 : decode cX8_sell 108 = .ok (.aload_n 3, 1) := by decide +kernel
theorem dX8_sell_109 : decode cX8_sell 109 = .ok (.invokevirtual 324, 3) := by decide +kernel
theorem dX8_sell_112 : decode cX8_sell 112 = .ok (.invokevirtual 375, 3) := by decide +kernel
theorem dX8_sell_115 : decode cX8_sell 115 = .ok (.aload_n 0, 1) := by decide +kernel
theorem dX8_sell_116 : decode cX8_sell 116 = .ok (.aload 5, 2) := by decide +kernel
theorem dX8_sell_118 : decode cX8_sell 118 = .ok (.aload_n 0, 1) := by decide +kernel
theorem dX8_sell_119 : decode cX8_sell 119 = .ok (.aload 5, 2) := by decide +kernel
theorem dX8_sell_121 : decode cX8_sell 121 = .ok (.invokevirtual 324, 3) := by decide +kernel
theorem dX8_sell_124 : decode cX8_sell 124 = .ok (.invokevirtual 375, 3) := by decide +kernel
theorem dX8_sell_127 : decode cX8_sell 127 = .ok (.iadd, 1) := by decide +kernel
theorem dX8_sell_128 : decode cX8_sell 128 = .ok (.ireturn, 1) := by decide +kernel
theorem dX8_back_0 : decode cX8_back 0 = .ok (.aload_n 0, 1) := by decide +kernel
theorem dX8_back_1 : decode cX8_back 1 = .ok (.iload_n 1, 1) := by decide +kernel
theorem dX8_back_2 : decode cX8_back 2 = .ok (.invokevirtual 311, 3) := by decide +kernel
theorem dX8_back_5 : decode cX8_back 5 = .ok (.astore_n 3, 1) := by decide +kernel
theorem dX8_back_6 : decode cX8_back 6 = .ok (.iload_n 2, 1) := by decide +kernel
theorem dX8_back_7 : decode cX8_back 7 = .ok (.ifCond .eq 19, 3) := by decide +kernel
theorem dX8_back_10 : decode cX8_back 10 = .ok (.iload_n 2, 1) := by decide +kernel
theorem dX8_back_11 : decode cX8_back 11 = .ok (.iconst 1, 1) := by decide +kernel
theorem dX8_back_12 : decode cX8_back 12 = .ok (.if_icmp .eq 14, 3) := by decide +kernel
theorem dX8_back_15 : decode cX8_back 15 = .ok (.new 84, 3) := by decide +kernel
theorem dX8_back_18 : decode cX8_back 18 = .ok (.dup, 1) := by decide +kernel
theorem dX8_back_19 : decode cX8_back 19 = .ok (.ldc_w 382, 3) := by decide +kernel
theorem dX8_back_22 : decode cX8_back 22 = .ok (.invokespecial 88, 3) := by decide +kernel
theorem dX8_back_25 : decode cX8_back 25 = .ok (.athrow, 1) := by decide +kernel
theorem dX8_back_26 : decode cX8_back 26 = .ok (.aload_n 3, 1) := by decide +kernel
theorem dX8_back_27 : decode cX8_back 27 = .ok (.getfield 321, 3) := by decide +kernel
theorem dX8_back_30 : decode cX8_back 30 = .ok (.iconst 1, 1) := by decide +kernel
theorem dX8_back_31 : decode cX8_back 31 = .ok (.if_icmp .eq 5, 3) := by decide +kernel
theorem dX8_back_34 : decode cX8_back 34 = .ok (.iconst (-1), 1) := by decide +kernel
theorem dX8_back_35 : decode cX8_back 35 = .ok (.ireturn, 1) := by decide +kernel
theorem dX8_back_36 : decode cX8_back 36 = .ok (.aload_n 0, 1) := by decide +kernel
theorem dX8_back_37 : decode cX8_back 37 = .ok (.getfield 73, 3) := by decide +kernel
theorem dX8_back_40 : decode cX8_back 40 = .ok (.aload_n 3, 1) := by decide +kernel
theorem dX8_back_41 : decode cX8_back 41 = .ok (.getfield 330, 3) := by decide +kernel
theorem dX8_back_44 : decode cX8_back 44 = .ok (.isub, 1) := by decide +kernel
theorem dX8_back_45 : decode cX8_back 45 = .ok (.bipush 30, 2) := by decide +kernel
theorem dX8_back_47 : decode cX8_back 47 = .ok (.if_icmp .le 6, 3) := by decide +kernel
theorem dX8_back_50 : decode cX8_back 50 = .ok (.bipush (-2), 2) := by decide +kernel
theorem dX8_back_52 : decode cX8_back 52 = .ok (.ireturn, 1) := by decide +kernel
theorem dX8_back_53 : decode cX8_back 53 = .ok (.iload_n 2, 1) := by decide +kernel
theorem dX8_back_54 : decode cX8_back 54 = .ok (.ifCond .ne 15, 3) := by decide +kernel
theorem dX8_back_57 : decode cX8_back 57 = .ok (.aload_n 0, 1) := by decide +kernel
theorem dX8_back_58 : decode cX8_back 58 = .ok (.getfield 70, 3) := by decide +kernel
theorem dX8_back_61 : decode cX8_back 61 = .ok (.bipush 60, 2) := by decide +kernel
theorem dX8_back_63 : decode cX8_back 63 = .ok (.if_icmp .lt 6, 3) := by decide +kernel
theorem dX8_back_66 : decode cX8_back 66 = .ok (.bipush (-3), 2) := by decide +kernel
theorem dX8_back_68 : decode cX8_back 68 = .ok (.ireturn, 1) := by decide +kernel
theorem dX8_back_69 : decode cX8_back 69 = .ok (.aload_n 0, 1) := by decide +kernel
theorem dX8_back_70 : decode cX8_back 70 = .ok (.aload_n 3, 1) := by decide +kernel
theorem dX8_back_71 : decode cX8_back 71 = .ok (.iload_n 2, 1) := by decide +kernel
theorem dX8_back_72 : decode cX8_back 72 = .ok (.iconst 1, 1) := by decide +kernel
theorem dX8_back_73 : decode cX8_back 73 = .ok (.if_icmp .ne 7, 3) := by decide +kernel
theorem dX8_back_76 : decode cX8_back 76 = .ok (.iconst 2, 1) := by decide +kernel
theorem dX8_back_77 : decode cX8_back 77 = .ok (.goto 4, 3) := by decide +kernel
theorem dX8_back_80 : decode cX8_back 80 = .ok (.iconst 0, 1) := by decide +kernel
theorem dX8_back_81 : decode cX8_back 81 = .ok (.invokevirtual 361, 3) := by decide +kernel
theorem dX8_back_84 : decode cX8_back 84 = .ok (.aload_n 0, 1) := by decide +kernel
theorem dX8_back_85 : decode cX8_back 85 = .ok (.dup, 1) := by decide +kernel
theorem dX8_back_86 : decode cX8_back 86 = .ok (.getfield 76, 3) := by decide +kernel
theorem dX8_back_89 : decode cX8_back 89 = .ok (.aload_n 3, 1) := by decide +kernel
theorem dX8_back_90 : decode cX8_back 90 = .ok (.getfield 327, 3) := by decide +kernel
theorem dX8_back_93 : decode cX8_back 93 = .ok (.i2l, 1) := by decide +kernel
theorem dX8_back_94 : decode cX8_back 94 = .ok (.lsub, 1) := by decide +kernel
theorem dX8_back_95 : decode cX8_back 95 = .ok (.putfield 76, 3) := by decide +kernel
theorem dX8_back_98 : decode cX8_back 98 = .ok (.aload_n 0, 1) := by decide +kernel
theorem dX8_back_99 : decode cX8_back 99 = .ok (.getfield 33, 3) := by decide +kernel
theorem dX8_back_102 : decode cX8_back 102 = .ok (.invokevirtual 225, 3) := by decide +kernel
theorem dX8_back_105 : decode cX8_back 105 = .ok (.aload_n 3, 1) := by decide +kernel
theorem dX8_back_106 : decode cX8_back 106 = .ok (.getfield 327, 3) := by decide +kernel
theorem dX8_back_109 : decode cX8_back 109 = .ok (.ireturn, 1) := by decide +kernel
theorem dX8_till_0 : decode cX8_till 0 = .ok (.aload_n 0, 1) := by decide +kernel
theorem dX8_till_1 : decode cX8_till 1 = .ok (.getfield 76, 3) := by decide +kernel
theorem dX8_till_4 : decode cX8_till 4 = .ok (.lreturn, 1) := by decide +kernel
theorem dX8_sellFor_0 : decode cX8_sellFor 0 = .ok (.aload_n 0, 1) := by decide +kernel
theorem dX8_sellFor_1 : decode cX8_sellFor 1 = .ok (.aload_n 1, 1) := by decide +kernel
theorem dX8_sellFor_2 : decode cX8_sellFor 2 = .ok (.iconst 1, 1) := by decide +kernel
theorem dX8_sellFor_3 : decode cX8_sellFor 3 = .ok (.invokevirtual 361, 3) := by decide +kernel
theorem dX8_sellFor_6 : decode cX8_sellFor 6 = .ok (.aload_n 1, 1) := by decide +kernel
theorem dX8_sellFor_7 : decode cX8_sellFor 7 = .ok (.iload_n 2, 1) := by decide +kernel
theorem dX8_sellFor_8 : decode cX8_sellFor 8 = .ok (.putfield 327, 3) := by decide +kernel
theorem dX8_sellFor_11 : decode cX8_sellFor 11 = .ok (.aload_n 0, 1) := by decide +kernel
theorem dX8_sellFor_12 : decode cX8_sellFor 12 = .ok (.dup, 1) := by decide +kernel
theorem dX8_sellFor_13 : decode cX8_sellFor 13 = .ok (.getfield 76, 3) := by decide +kernel
theorem dX8_sellFor_16 : decode cX8_sellFor 16 = .ok (.iload_n 2, 1) := by decide +kernel
theorem dX8_sellFor_17 : decode cX8_sellFor 17 = .ok (.i2l, 1) := by decide +kernel
theorem dX8_sellFor_18 : decode cX8_sellFor 18 = .ok (.ladd, 1) := by decide +kernel
theorem dX8_sellFor_19 : decode cX8_sellFor 19 = .ok (.putfield 76, 3) := by decide +kernel
theorem dX8_sellFor_22 : decode cX8_sellFor 22 = .ok (.iload_n 2, 1) := by decide +kernel
theorem dX8_sellFor_23 : decode cX8_sellFor 23 = .ok (.ireturn, 1) := by decide +kernel
theorem dX8_otherOfPair_0 : decode cX8_otherOfPair 0 = .ok (.iconst 0, 1) := by decide +kernel
theorem dX8_otherOfPair_1 : decode cX8_otherOfPair 1 = .ok (.istore_n 2, 1) := by decide +kernel
theorem dX8_otherOfPair_2 : decode cX8_otherOfPair 2 = .ok (.iload_n 2, 1) := by decide +kernel
theorem dX8_otherOfPair_3 : decode cX8_otherOfPair 3 = .ok (.aload_n 0, 1) := by decide +kernel
theorem dX8_otherOfPair_4 : decode cX8_otherOfPair 4 = .ok (.getfield 67, 3) := by decide +kernel
theorem dX8_otherOfPair_7 : decode cX8_otherOfPair 7 = .ok (.if_icmp .ge 69, 3) := by decide +kernel
theorem dX8_otherOfPair_10 : decode cX8_otherOfPair 10 = .ok (.aload_n 0, 1) := by decide +kernel
theorem dX8_otherOfPair_11 : decode cX8_otherOfPair 11 = .ok (.iload_n 2, 1) := by decide +kernel
theorem dX8_otherOfPair_12 : decode cX8_otherOfPair 12 = .ok (.invokevirtual 338, 3) := by decide +kernel
theorem dX8_otherOfPair_15 : decode cX8_otherOfPair 15 = .ok (.astore_n 3, 1) := by decide +kernel
theorem dX8_otherOfPair_16 : decode cX8_otherOfPair 16 = .ok (.aload_n 3, 1) := by decide +kernel
theorem dX8_otherOfPair_17 : decode cX8_otherOfPair 17 = .ok (.ifnull 53, 3) := by decide +kernel
theorem dX8_otherOfPair_20 : decode cX8_otherOfPair 20 = .ok (.aload_n 3, 1) := by decide +kernel
theorem dX8_otherOfPair_21 : decode cX8_otherOfPair 21 = .ok (.aload_n 1, 1) := by decide +kernel
theorem dX8_otherOfPair_22 : decode cX8_otherOfPair 22 = .ok (.if_acmp .eq 48, 3) := by decide +kernel
theorem dX8_otherOfPair_25 : decode cX8_otherOfPair 25 = .ok (.aload_n 3, 1) := by decide +kernel
theorem dX8_otherOfPair_26 : decode cX8_otherOfPair 26 = .ok (.getfield 321, 3) := by decide +kernel
theorem dX8_otherOfPair_29 : decode cX8_otherOfPair 29 = .ok (.ifCond .ne 41, 3) := by decide +kernel
theorem dX8_otherOfPair_32 : decode cX8_otherOfPair 32 = .ok (.aload_n 3, 1) := by decide +kernel
theorem dX8_otherOfPair_33 : decode cX8_otherOfPair 33 = .ok (.getfield 315, 3) := by decide +kernel
theorem dX8_otherOfPair_36 : decode cX8_otherOfPair 36 = .ok (.aload_n 1, 1) := by decide +kernel
theorem dX8_otherOfPair_37 : decode cX8_otherOfPair 37 = .ok (.getfield 315, 3) := by decide +kernel
theorem dX8_otherOfPair_40 : decode cX8_otherOfPair 40 = .ok (.if_icmp .ne 30, 3) := by decide +kernel
theorem dX8_otherOfPair_43 : decode cX8_otherOfPair 43 = .ok (.aload_n 0, 1) := by decide +kernel
theorem dX8_otherOfPair_44 : decode cX8_otherOfPair 44 = .ok (.aload_n 3, 1) := by decide +kernel
theorem dX8_otherOfPair_45 : decode cX8_otherOfPair 45 = .ok (.iconst 0, 1) := by decide +kernel
theorem dX8_otherOfPair_46 : decode cX8_otherOfPair 46 = .ok (.invokevirtual 341, 3) := by decide +kernel
theorem dX8_otherOfPair_49 : decode cX8_otherOfPair 49 = .ok (.iconst 1, 1) := by decide +kernel
theorem dX8_otherOfPair_50 : decode cX8_otherOfPair 50 = .ok (.if_icmp .ne 20, 3) := by decide +kernel
theorem dX8_otherOfPair_53 : decode cX8_otherOfPair 53 = .ok (.aload_n 0, 1) := by decide +kernel
theorem dX8_otherOfPair_54 : decode cX8_otherOfPair 54 = .ok (.aload_n 3, 1) := by decide +kernel
theorem dX8_otherOfPair_55 : decode cX8_otherOfPair 55 = .ok (.iconst 1, 1) := by decide +kernel
theorem dX8_otherOfPair_56 : decode cX8_otherOfPair 56 = .ok (.invokevirtual 341, 3) := by decide +kernel
theorem dX8_otherOfPair_59 : decode cX8_otherOfPair 59 = .ok (.aload_n 0, 1) := by decide +kernel
theorem dX8_otherOfPair_60 : decode cX8_otherOfPair 60 = .ok (.aload_n 1, 1) := by decide +kernel
theorem dX8_otherOfPair_61 : decode cX8_otherOfPair 61 = .ok (.iconst 1, 1) := by decide +kernel
theorem dX8_otherOfPair_62 : decode cX8_otherOfPair 62 = .ok (.invokevirtual 341, 3) := by decide +kernel
theorem dX8_otherOfPair_65 : decode cX8_otherOfPair 65 = .ok (.if_icmp .ne 5, 3) := by decide +kernel
theorem dX8_otherOfPair_68 : decode cX8_otherOfPair 68 = .ok (.aload_n 3, 1) := by decide +kernel
theorem dX8_otherOfPair_69 : decode cX8_otherOfPair 69 = .ok (.areturn, 1) := by decide +kernel
theorem dX8_otherOfPair_70 : decode cX8_otherOfPair 70 = .ok (.iinc 2 1, 3) := by decide +kernel
theorem dX8_otherOfPair_73 : decode cX8_otherOfPair 73 = .ok (.goto (-71), 3) := by decide +kernel
theorem dX8_otherOfPair_76 : decode cX8_otherOfPair 76 = .ok (.aconst_null, 1) := by decide +kernel
theorem dX8_otherOfPair_77 : decode cX8_otherOfPair 77 = .ok (.areturn, 1) := by decide +kernel
theorem dX8_best_0 : decode cX8_best 0 = .ok (.aload_n 0, 1) := by decide +kernel
theorem dX8_best_1 : decode cX8_best 1 = .ok (.aload_n 0, 1) := by decide +kernel
theorem dX8_best_2 : decode cX8_best 2 = .ok (.iload_n 1, 1) := by decide +kernel
theorem dX8_best_3 : decode cX8_best 3 = .ok (.invokevirtual 228, 3) := by decide +kernel
theorem dX8_best_6 : decode cX8_best 6 = .ok (.iload_n 2, 1) := by decide +kernel
theorem dX8_best_7 : decode cX8_best 7 = .ok (.invokestatic 384, 3) := by decide +kernel
theorem dX8_best_10 : decode cX8_best 10 = .ok (.invokevirtual 387, 3) := by decide +kernel
theorem dX8_best_13 : decode cX8_best 13 = .ok (.ireturn, 1) := by decide +kernel
theorem dX8_worth_0 : decode cX8_worth 0 = .ok (.aload_n 0, 1) := by decide +kernel
theorem dX8_worth_1 : decode cX8_worth 1 = .ok (.iload_n 1, 1) := by decide +kernel
theorem dX8_worth_2 : decode cX8_worth 2 = .ok (.invokevirtual 228, 3) := by decide +kernel
theorem dX8_worth_5 : decode cX8_worth 5 = .ok (.astore_n 3, 1) := by decide +kernel
theorem dX8_worth_6 : decode cX8_worth 6 = .ok (.aload_n 0, 1) := by decide +kernel
theorem dX8_worth_7 : decode cX8_worth 7 = .ok (.aload_n 3, 1) := by decide +kernel
theorem dX8_worth_8 : decode cX8_worth 8 = .ok (.iload_n 2, 1) := by decide +kernel
theorem dX8_worth_9 : decode cX8_worth 9 = .ok (.invokestatic 384, 3) := by decide +kernel
theorem dX8_worth_12 : decode cX8_worth 12 = .ok (.invokevirtual 387, 3) := by decide +kernel
theorem dX8_worth_15 : decode cX8_worth 15 = .ok (.istore 4, 2) := by decide +kernel
theorem dX8_worth_17 : decode cX8_worth 17 = .ok (.iconst 0, 1) := by decide +kernel
theorem dX8_worth_18 : decode cX8_worth 18 = .ok (.istore 5, 2) := by decide +kernel
theorem dX8_worth_20 : decode cX8_worth 20 = .ok (.iconst 0, 1) := by decide +kernel
theorem dX8_worth_21 : decode cX8_worth 21 = .ok (.istore 6, 2) := by decide +kernel
theorem dX8_worth_23 : decode cX8_worth 23 = .ok (.iload 6, 2) := by decide +kernel
theorem dX8_worth_25 : decode cX8_worth 25 = .ok (.aload_n 3, 1) := by decide +kernel
theorem dX8_worth_26 : decode cX8_worth 26 = .ok (.getfield 265, 3) := by decide +kernel
theorem dX8_worth_29 : decode cX8_worth 29 = .ok (.if_icmp .ge 32, 3) := by decide +kernel
theorem dX8_worth_32 : decode cX8_worth 32 = .ok (.iload 4, 2) := by decide +kernel
theorem dX8_worth_34 : decode cX8_worth 34 = .ok (.iload 6, 2) := by decide +kernel
theorem dX8_worth_36 : decode cX8_worth 36 = .ok (.ishr, 1) := by decide +kernel
theorem dX8_worth_37 : decode cX8_worth 37 = .ok (.iconst 1, 1) := by decide +kernel
theorem dX8_worth_38 : decode cX8_worth 38 = .ok (.iand, 1) := by decide +kernel
theorem dX8_worth_39 : decode cX8_worth 39 = .ok (.ifCond .eq 16, 3) := by decide +kernel
theorem dX8_worth_42 : decode cX8_worth 42 = .ok (.iload 5, 2) := by decide +kernel
theorem dX8_worth_44 : decode cX8_worth 44 = .ok (.aload_n 0, 1) := by decide +kernel
theorem dX8_worth_45 : decode cX8_worth 45 = .ok (.aload_n 3, 1) := by decide +kernel
theorem dX8_worth_46 : decode cX8_worth 46 = .ok (.iload 6, 2) := by decide +kernel
theorem dX8_worth_48 : decode cX8_worth 48 = .ok (.iload_n 2, 1) := by decide +kernel
theorem dX8_worth_49 : decode cX8_worth 49 = .ok (.invokevirtual 390, 3) := by decide +kernel
theorem dX8_worth_52 : decode cX8_worth 52 = .ok (.iadd, 1) := by decide +kernel
theorem dX8_worth_53 : decode cX8_worth 53 = .ok (.istore 5, 2) := by decide +kernel
theorem dX8_worth_55 : decode cX8_worth 55 = .ok (.iinc 6 1, 3) := by decide +kernel
theorem dX8_worth_58 : decode cX8_worth 58 = .ok (.goto (-35), 3) := by decide +kernel
theorem dX8_worth_61 : decode cX8_worth 61 = .ok (.iload 5, 2) := by decide +kernel
theorem dX8_worth_63 : decode cX8_worth 63 = .ok (.ireturn, 1) := by decide +kernel
theorem dX8_wageOf_0 : decode cX8_wageOf 0 = .ok (.iload_n 0, 1) := by decide +kernel
theorem dX8_wageOf_1 : decode cX8_wageOf 1 = .ok (.ifCond .lt 10, 3) := by decide +kernel
theorem dX8_wageOf_4 : decode cX8_wageOf 4 = .ok (.iload_n 0, 1) := by decide +kernel
theorem dX8_wageOf_5 : decode cX8_wageOf 5 = .ok (.sipush 1000, 3) := by decide +kernel
theorem dX8_wageOf_8 : decode cX8_wageOf 8 = .ok (.if_icmp .le 14, 3) := by decide +kernel
theorem dX8_wageOf_11 : decode cX8_wageOf 11 = .ok (.new 84, 3) := by decide +kernel
theorem dX8_wageOf_14 : decode cX8_wageOf 14 = .ok (.dup, 1) := by decide +kernel
theorem dX8_wageOf_15 : decode cX8_wageOf 15 = .ok (.ldc_w 394, 3) := by decide +kernel
theorem dX8_wageOf_18 : decode cX8_wageOf 18 = .ok (.invokespecial 88, 3) := by decide +kernel
theorem dX8_wageOf_21 : decode cX8_wageOf 21 = .ok (.athrow, 1) := by decide +kernel
theorem dX8_wageOf_22 : decode cX8_wageOf 22 = .ok (.iload_n 0, 1) := by decide +kernel
theorem dX8_wageOf_23 : decode cX8_wageOf 23 = .ok (.ireturn, 1) := by decide +kernel
theorem dX8_bestOf_0 : decode cX8_bestOf 0 = .ok (.aload_n 0, 1) := by decide +kernel
theorem dX8_bestOf_1 : decode cX8_bestOf 1 = .ok (.aload_n 1, 1) := by decide +kernel
theorem dX8_bestOf_2 : decode cX8_bestOf 2 = .ok (.iload_n 2, 1) := by decide +kernel
theorem dX8_bestOf_3 : decode cX8_bestOf 3 = .ok (.invokevirtual 396, 3) := by decide +kernel
theorem dX8_bestOf_6 : decode cX8_bestOf 6 = .ok (.iconst 0, 1) := by decide +kernel
theorem dX8_bestOf_7 : decode cX8_bestOf 7 = .ok (.istore_n 3, 1) := by decide +kernel
theorem dX8_bestOf_8 : decode cX8_bestOf 8 = .ok (.iconst 0, 1) := by decide +kernel
theorem dX8_bestOf_9 : decode cX8_bestOf 9 = .ok (.istore 4, 2) := by decide +kernel
theorem dX8_bestOf_11 : decode cX8_bestOf 11 = .ok (.iload 4, 2) := by decide +kernel
theorem dX8_bestOf_13 : decode cX8_bestOf 13 = .ok (.aload_n 1, 1) := by decide +kernel
theorem dX8_bestOf_14 : decode cX8_bestOf 14 = .ok (.getfield 265, 3) := by decide +kernel
theorem dX8_bestOf_17 : decode cX8_bestOf 17 = .ok (.if_icmp .ge 92, 3) := by decide +kernel
theorem dX8_bestOf_20 : decode cX8_bestOf 20 = .ok (.iload 4, 2) := by decide +kernel
theorem dX8_bestOf_22 : decode cX8_bestOf 22 = .ok (.aload_n 0, 1) := by decide +kernel
theorem dX8_bestOf_23 : decode cX8_bestOf 23 = .ok (.getfield 60, 3) := by decide +kernel
theorem dX8_bestOf_26 : decode cX8_bestOf 26 = .ok (.arraylength, 1) := by decide +kernel
theorem dX8_bestOf_27 : decode cX8_bestOf 27 = .ok (.if_icmp .ge 82, 3) := by decide +kernel
theorem dX8_bestOf_30 : decode cX8_bestOf 30 = .ok (.aload_n 0, 1) := by decide +kernel
theorem dX8_bestOf_31 : decode cX8_bestOf 31 = .ok (.getfield 26, 3) := by decide +kernel
theorem dX8_bestOf_34 : decode cX8_bestOf 34 = .ok (.aload_n 1, 1) := by decide +kernel
theorem dX8_bestOf_35 : decode cX8_bestOf 35 = .ok (.getfield 232, 3) := by decide +kernel
theorem dX8_bestOf_38 : decode cX8_bestOf 38 = .ok (.iload 4, 2) := by decide +kernel
theorem dX8_bestOf_40 : decode cX8_bestOf 40 = .ok (.iconst 2, 1) := by decide +kernel
theorem dX8_bestOf_41 : decode cX8_bestOf 41 = .ok (.invokevirtual 174, 3) := by decide +kernel
theorem dX8_bestOf_44 : decode cX8_bestOf 44 = .ok (.istore 5, 2) := by decide +kernel
theorem dX8_bestOf_46 : decode cX8_bestOf 46 = .ok (.aload_n 1, 1) := by decide +kernel
theorem dX8_bestOf_47 : decode cX8_bestOf 47 = .ok (.iload 5, 2) := by decide +kernel
theorem dX8_bestOf_49 : decode cX8_bestOf 49 = .ok (.invokevirtual 270, 3) := by decide +kernel
theorem dX8_bestOf_52 : decode cX8_bestOf 52 = .ok (.ifCond .eq 12, 3) := by decide +kernel
theorem dX8_bestOf_55 : decode cX8_bestOf 55 = .ok (.iload_n 3, 1) := by decide +kernel
theorem dX8_bestOf_56 : decode cX8_bestOf 56 = .ok (.iload 5, 2) := by decide +kernel
theorem dX8_bestOf_58 : decode cX8_bestOf 58 = .ok (.ishr, 1) := by decide +kernel
theorem dX8_bestOf_59 : decode cX8_bestOf 59 = .ok (.iconst 1, 1) := by decide +kernel
theorem dX8_bestOf_60 : decode cX8_bestOf 60 = .ok (.iand, 1) := by decide +kernel
theorem dX8_bestOf_61 : decode cX8_bestOf 61 = .ok (.ifCond .eq 7, 3) := by decide +kernel
theorem dX8_bestOf_64 : decode cX8_bestOf 64 = .ok (.iconst 1, 1) := by decide +kernel
theorem dX8_bestOf_65 : decode cX8_bestOf 65 = .ok (.goto 4, 3) := by decide +kernel
theorem dX8_bestOf_68 : decode cX8_bestOf 68 = .ok (.iconst 0, 1) := by decide +kernel
theorem dX8_bestOf_69 : decode cX8_bestOf 69 = .ok (.istore 6, 2) := by decide +kernel
theorem dX8_bestOf_71 : decode cX8_bestOf 71 = .ok (.aload_n 0, 1) := by decide +kernel
theorem dX8_bestOf_72 : decode cX8_bestOf 72 = .ok (.aload_n 1, 1) := by decide +kernel
theorem dX8_bestOf_73 : decode cX8_bestOf 73 = .ok (.iload 4, 2) := by decide +kernel
theorem dX8_bestOf_75 : decode cX8_bestOf 75 = .ok (.invokevirtual 400, 3) := by decide +kernel
theorem dX8_bestOf_78 : decode cX8_bestOf 78 = .ok (.ifCond .eq 25, 3) := by decide +kernel
theorem dX8_bestOf_81 : decode cX8_bestOf 81 = .ok (.iload 6, 2) := by decide +kernel
theorem dX8_bestOf_83 : decode cX8_bestOf 83 = .ok (.ifCond .eq 20, 3) := by decide +kernel
theorem dX8_bestOf_86 : decode cX8_bestOf 86 = .ok (.aload_n 0, 1) := by decide +kernel
theorem dX8_bestOf_87 : decode cX8_bestOf 87 = .ok (.getfield 60, 3) := by decide +kernel
theorem dX8_bestOf_90 : decode cX8_bestOf 90 = .ok (.iload 4, 2) := by decide +kernel
theorem dX8_bestOf_92 : decode cX8_bestOf 92 = .ok (.iaload, 1) := by decide +kernel
theorem dX8_bestOf_93 : decode cX8_bestOf 93 = .ok (.ifCond .le 10, 3) := by decide +kernel
theorem dX8_bestOf_96 : decode cX8_bestOf 96 = .ok (.iload_n 3, 1) := by decide +kernel
theorem dX8_bestOf_97 : decode cX8_bestOf 97 = .ok (.iconst 1, 1) := by decide +kernel
theorem dX8_bestOf_98 : decode cX8_bestOf 98 = .ok (.iload 4, 2) := by decide +kernel
theorem dX8_bestOf_100 : decode cX8_bestOf 100 = .ok (.ishl, 1) := by decide +kernel
theorem dX8_bestOf_101 : decode cX8_bestOf 101 = .ok (.ior, 1) := by decide +kernel
theorem dX8_bestOf_102 : decode cX8_bestOf 102 = .ok (.istore_n 3, 1) := by decide +kernel
theorem dX8_bestOf_103 : decode cX8_bestOf 103 = .ok (.iinc 4 1, 3) := by decide +kernel
theorem dX8_bestOf_106 : decode cX8_bestOf 106 = .ok (.goto (-95), 3) := by decide +kernel
theorem dX8_bestOf_109 : decode cX8_bestOf 109 = .ok (.iload_n 3, 1) := by decide +kernel
theorem dX8_bestOf_110 : decode cX8_bestOf 110 = .ok (.ireturn, 1) := by decide +kernel
theorem dX8_sumGains_0 : decode cX8_sumGains 0 = .ok (.aload_n 0, 1) := by decide +kernel
theorem dX8_sumGains_1 : decode cX8_sumGains 1 = .ok (.getfield 60, 3) := by decide +kernel
theorem dX8_sumGains_4 : decode cX8_sumGains 4 = .ok (.iconst 0, 1) := by decide +kernel
theorem dX8_sumGains_5 : decode cX8_sumGains 5 = .ok (.invokestatic 403, 3) := by decide +kernel
theorem dX8_sumGains_8 : decode cX8_sumGains 8 = .ok (.aload_n 1, 1) := by decide +kernel
theorem dX8_sumGains_9 : decode cX8_sumGains 9 = .ok (.getfield 265, 3) := by decide +kernel
theorem dX8_sumGains_12 : decode cX8_sumGains 12 = .ok (.aload_n 0, 1) := by decide +kernel
theorem dX8_sumGains_13 : decode cX8_sumGains 13 = .ok (.getfield 60, 3) := by decide +kernel
theorem dX8_sumGains_16 : decode cX8_sumGains 16 = .ok (.arraylength, 1) := by decide +kernel
theorem dX8_sumGains_17 : decode cX8_sumGains 17 = .ok (.invokestatic 365, 3) := by decide +kernel
theorem dX8_sumGains_20 : decode cX8_sumGains 20 = .ok (.iconst 1, 1) := by decide +kernel
theorem dX8_sumGains_21 : decode cX8_sumGains 21 = .ok (.isub, 1) := by decide +kernel
theorem dX8_sumGains_22 : decode cX8_sumGains 22 = .ok (.istore_n 3, 1) := by decide +kernel
theorem dX8_sumGains_23 : decode cX8_sumGains 23 = .ok (.iload_n 3, 1) := by decide +kernel
theorem dX8_sumGains_24 : decode cX8_sumGains 24 = .ok (.ifCond .lt 89, 3) := by decide +kernel
theorem dX8_sumGains_27 : decode cX8_sumGains 27 = .ok (.aload_n 0, 1) := by decide +kernel
theorem dX8_sumGains_28 : decode cX8_sumGains 28 = .ok (.aload_n 1, 1) := by decide +kernel
theorem dX8_sumGains_29 : decode cX8_sumGains 29 = .ok (.iload_n 3, 1) := by decide +kernel
theorem dX8_sumGains_30 : decode cX8_sumGains 30 = .ok (.invokevirtual 400, 3) := by decide +kernel
theorem dX8_sumGains_33 : decode cX8_sumGains 33 = .ok (.ifCond .eq 74, 3) := by decide +kernel
theorem dX8_sumGains_36 : decode cX8_sumGains 36 = .ok (.aload_n 0, 1) := by decide +kernel
theorem dX8_sumGains_37 : decode cX8_sumGains 37 = .ok (.getfield 60, 3) := by decide +kernel
theorem dX8_sumGains_40 : decode cX8_sumGains 40 = .ok (.iload_n 3, 1) := by decide +kernel
theorem dX8_sumGains_41 : decode cX8_sumGains 41 = .ok (.dup2, 1) := by decide +kernel
theorem dX8_sumGains_42 : decode cX8_sumGains 42 = .ok (.iaload, 1) := by decide +kernel
theorem dX8_sumGains_43 : decode cX8_sumGains 43 = .ok (.aload_n 0, 1) := by decide +kernel
theorem dX8_sumGains_44 : decode cX8_sumGains 44 = .ok (.aload_n 1, 1) := by decide +kernel
theorem dX8_sumGains_45 : decode cX8_sumGains 45 = .ok (.iload_n 3, 1) := by decide +kernel
theorem dX8_sumGains_46 : decode cX8_sumGains 46 = .ok (.iload_n 2, 1) := by decide +kernel
theorem dX8_sumGains_47 : decode cX8_sumGains 47 = .ok (.invokevirtual 390, 3) := by decide +kernel
theorem dX8_sumGains_50 : decode cX8_sumGains 50 = .ok (.iadd, 1) := by decide +kernel
theorem dX8_sumGains_51 : decode cX8_sumGains 51 = .ok (.iastore, 1) := by decide +kernel
theorem dX8_sumGains_52 : decode cX8_sumGains 52 = .ok (.aload_n 0, 1) := by decide +kernel
theorem dX8_sumGains_53 : decode cX8_sumGains 53 = .ok (.getfield 26, 3) := by decide +kernel
theorem dX8_sumGains_56 : decode cX8_sumGains 56 = .ok (.aload_n 1, 1) := by decide +kernel
theorem dX8_sumGains_57 : decode cX8_sumGains 57 = .ok (.getfield 232, 3) := by decide +kernel
theorem dX8_sumGains_60 : decode cX8_sumGains 60 = .ok (.iload_n 3, 1) := by decide +kernel
theorem dX8_sumGains_61 : decode cX8_sumGains 61 = .ok (.iconst 2, 1) := by decide +kernel
theorem dX8_sumGains_62 : decode cX8_sumGains 62 = .ok (.invokevirtual 174, 3) := by decide +kernel
theorem dX8_sumGains_65 : decode cX8_sumGains 65 = .ok (.istore 4, 2) := by decide +kernel
theorem dX8_sumGains_67 : decode cX8_sumGains 67 = .ok (.aload_n 0, 1) := by decide +kernel
theorem dX8_sumGains_68 : decode cX8_sumGains 68 = .ok (.getfield 60, 3) := by decide +kernel
theorem dX8_sumGains_71 : decode cX8_sumGains 71 = .ok (.iload_n 3, 1) := by decide +kernel
theorem dX8_sumGains_72 : decode cX8_sumGains 72 = .ok (.iaload, 1) := by decide +kernel
theorem dX8_sumGains_73 : decode cX8_sumGains 73 = .ok (.ifCond .le 34, 3) := by decide +kernel
theorem dX8_sumGains_76 : decode cX8_sumGains 76 = .ok (.iload 4, 2) := by decide +kernel
theorem dX8_sumGains_78 : decode cX8_sumGains 78 = .ok (.ifCond .lt 29, 3) := by decide +kernel
theorem dX8_sumGains_81 : decode cX8_sumGains 81 = .ok (.iload 4, 2) := by decide +kernel
theorem dX8_sumGains_83 : decode cX8_sumGains 83 = .ok (.aload_n 0, 1) := by decide +kernel
theorem dX8_sumGains_84 : decode cX8_sumGains 84 = .ok (.getfield 60, 3) := by decide +kernel
theorem dX8_sumGains_87 : decode cX8_sumGains 87 = .ok (.arraylength, 1) := by decide +kernel
theorem dX8_sumGains_88 : decode cX8_sumGains 88 = .ok (.if_icmp .ge 19, 3) := by decide +kernel
theorem dX8_sumGains_91 : decode cX8_sumGains 91 = .ok (.aload_n 0, 1) := by decide +kernel
theorem dX8_sumGains_92 : decode cX8_sumGains 92 = .ok (.getfield 60, 3) := by decide +kernel
theorem dX8_sumGains_95 : decode cX8_sumGains 95 = .ok (.iload 4, 2) := by decide +kernel
theorem dX8_sumGains_97 : decode cX8_sumGains 97 = .ok (.dup2, 1) := by decide +kernel
theorem dX8_sumGains_98 : decode cX8_sumGains 98 = .ok (.iaload, 1) := by decide +kernel
theorem dX8_sumGains_99 : decode cX8_sumGains 99 = .ok (.aload_n 0, 1) := by decide +kernel
theorem dX8_sumGains_100 : decode cX8_sumGains 100 = .ok (.getfield 60, 3) := by decide +kernel
theorem dX8_sumGains_103 : decode cX8_sumGains 103 = .ok (.iload_n 3, 1) := by decide +kernel
theorem dX8_sumGains_104 : decode cX8_sumGains 104 = .ok (.iaload, 1) := by decide +kernel
theorem dX8_sumGains_105 : decode cX8_sumGains 105 = .ok (.iadd, 1) := by decide +kernel
theorem dX8_sumGains_106 : decode cX8_sumGains 106 = .ok (.iastore, 1) := by decide +kernel
theorem dX8_sumGains_107 : decode cX8_sumGains 107 = .ok (.iinc 3 (-1), 3) := by decide +kernel
theorem dX8_sumGains_110 : decode cX8_sumGains 110 = .ok (.goto (-87), 3) := by decide +kernel
theorem dX8_sumGains_113 : decode cX8_sumGains 113 = .ok (.return_, 1) := by decide +kernel
theorem dX8_mayBeChosen_0 : decode cX8_mayBeChosen 0 = .ok (.aload_n 0, 1) := by decide +kernel
theorem dX8_mayBeChosen_1 : decode cX8_mayBeChosen 1 = .ok (.getfield 26, 3) := by decide +kernel
theorem dX8_mayBeChosen_4 : decode cX8_mayBeChosen 4 = .ok (.aload_n 1, 1) := by decide +kernel
theorem dX8_mayBeChosen_5 : decode cX8_mayBeChosen 5 = .ok (.getfield 232, 3) := by decide +kernel
theorem dX8_mayBeChosen_8 : decode cX8_mayBeChosen 8 = .ok (.iload_n 2, 1) := by decide +kernel
theorem dX8_mayBeChosen_9 : decode cX8_mayBeChosen 9 = .ok (.iconst 0, 1) := by decide +kernel
theorem dX8_mayBeChosen_10 : decode cX8_mayBeChosen 10 = .ok (.invokevirtual 174, 3) := by decide +kernel
theorem dX8_mayBeChosen_13 : decode cX8_mayBeChosen 13 = .ok (.istore_n 3, 1) := by decide +kernel
theorem dX8_mayBeChosen_14 : decode cX8_mayBeChosen 14 = .ok (.aload_n 1, 1) := by decide +kernel
theorem dX8_mayBeChosen_15 : decode cX8_mayBeChosen 15 = .ok (.iload_n 2, 1) := by decide +kernel
theorem dX8_mayBeChosen_16 : decode cX8_mayBeChosen 16 = .ok (.invokevirtual 270, 3) := by decide +kernel
theorem dX8_mayBeChosen_19 : decode cX8_mayBeChosen 19 = .ok (.ifCond .eq 26, 3) := by decide +kernel
theorem dX8_mayBeChosen_22 : decode cX8_mayBeChosen 22 = .ok (.iload_n 3, 1) := by decide +kernel
theorem dX8_mayBeChosen_23 : decode cX8_mayBeChosen 23 = .ok (.iconst 5, 1) := by decide +kernel
theorem dX8_mayBeChosen_24 : decode cX8_mayBeChosen 24 = .ok (.if_icmp .eq 21, 3) := by decide +kernel
theorem dX8_mayBeChosen_27 : decode cX8_mayBeChosen 27 = .ok (.aload_n 1, 1) := by decide +kernel
theorem dX8_mayBeChosen_28 : decode cX8_mayBeChosen 28 = .ok (.getfield 244, 3) := by decide +kernel
theorem dX8_mayBeChosen_31 : decode cX8_mayBeChosen 31 = .ok (.ifCond .ne 10, 3) := by decide +kernel
theorem dX8_mayBeChosen_34 : decode cX8_mayBeChosen 34 = .ok (.iload_n 3, 1) := by decide +kernel
theorem dX8_mayBeChosen_35 : decode cX8_mayBeChosen 35 = .ok (.invokestatic 295, 3) := by decide +kernel
theorem dX8_mayBeChosen_38 : decode cX8_mayBeChosen 38 = .ok (.ifCond .ne 7, 3) := by decide +kernel
theorem dX8_mayBeChosen_41 : decode cX8_mayBeChosen 41 = .ok (.iconst 1, 1) := by decide +kernel
theorem dX8_mayBeChosen_42 : decode cX8_mayBeChosen 42 = .ok (.goto 4, 3) := by decide +kernel
theorem dX8_mayBeChosen_45 : decode cX8_mayBeChosen 45 = .ok (.iconst 0, 1) := by decide +kernel
theorem dX8_mayBeChosen_46 : decode cX8_mayBeChosen 46 = .ok (.ireturn, 1) := by decide +kernel
theorem dX8_gainOf_0 : decode cX8_gainOf 0 = .ok (.aload_n 0, 1) := by decide +kernel
theorem dX8_gainOf_1 : decode cX8_gainOf 1 = .ok (.getfield 26, 3) := by decide +kernel
theorem dX8_gainOf_4 : decode cX8_gainOf 4 = .ok (.aload_n 1, 1) := by decide +kernel
theorem dX8_gainOf_5 : decode cX8_gainOf 5 = .ok (.getfield 232, 3) := by decide +kernel
theorem dX8_gainOf_8 : decode cX8_gainOf 8 = .ok (.iload_n 2, 1) := by decide +kernel
theorem dX8_gainOf_9 : decode cX8_gainOf 9 = .ok (.iconst 0, 1) := by decide +kernel
theorem dX8_gainOf_10 : decode cX8_gainOf 10 = .ok (.invokevirtual 174, 3) := by decide +kernel
theorem dX8_gainOf_13 : decode cX8_gainOf 13 = .ok (.istore 4, 2) := by decide +kernel
theorem dX8_gainOf_15 : decode cX8_gainOf 15 = .ok (.aload_n 0, 1) := by decide +kernel
theorem dX8_gainOf_16 : decode cX8_gainOf 16 = .ok (.getfield 26, 3) := by decide +kernel
theorem dX8_gainOf_19 : decode cX8_gainOf 19 = .ok (.aload_n 1, 1) := by decide +kernel
theorem dX8_gainOf_20 : decode cX8_gainOf 20 = .ok (.getfield 232, 3) := by decide +kernel
theorem dX8_gainOf_23 : decode cX8_gainOf 23 = .ok (.iload_n 2, 1) := by decide +kernel
theorem dX8_gainOf_24 : decode cX8_gainOf 24 = .ok (.bipush 6, 2) := by decide +kernel
theorem dX8_gainOf_26 : decode cX8_gainOf 26 = .ok (.invokevirtual 174, 3) := by decide +kernel
theorem dX8_gainOf_29 : decode cX8_gainOf 29 = .ok (.istore 5, 2) := by decide +kernel
theorem dX8_gainOf_31 : decode cX8_gainOf 31 = .ok (.iload 4, 2) := by decide +kernel
theorem dX8_gainOf_33 : decode cX8_gainOf 33 = .ok (.iconst 2, 1) := by decide +kernel
theorem dX8_gainOf_34 : decode cX8_gainOf 34 = .ok (.if_icmp .eq 9, 3) := by decide +kernel
theorem dX8_gainOf_37 : decode cX8_gainOf 37 = .ok (.iload 4, 2) := by decide +kernel
theorem dX8_gainOf_39 : decode cX8_gainOf 39 = .ok (.iconst 1, 1) := by decide +kernel
theorem dX8_gainOf_40 : decode cX8_gainOf 40 = .ok (.if_icmp .ne 10, 3) := by decide +kernel
theorem dX8_gainOf_43 : decode cX8_gainOf 43 = .ok (.iload 5, 2) := by decide +kernel
theorem dX8_gainOf_45 : decode cX8_gainOf 45 = .ok (.iconst 2, 1) := by decide +kernel
theorem dX8_gainOf_46 : decode cX8_gainOf 46 = .ok (.idiv, 1) := by decide +kernel
theorem dX8_gainOf_47 : decode cX8_gainOf 47 = .ok (.goto 5, 3) := by decide +kernel
theorem dX8_gainOf_50 : decode cX8_gainOf 50 = .ok (.iload 5, 2) := by decide +kernel
theorem dX8_gainOf_52 : decode cX8_gainOf 52 = .ok (.istore 6, 2) := by decide +kernel
theorem dX8_gainOf_54 : decode cX8_gainOf 54 = .ok (.iload 6, 2) := by decide +kernel
theorem dX8_gainOf_56 : decode cX8_gainOf 56 = .ok (.aload_n 0, 1) := by decide +kernel
theorem dX8_gainOf_57 : decode cX8_gainOf 57 = .ok (.getfield 26, 3) := by decide +kernel
theorem dX8_gainOf_60 : decode cX8_gainOf 60 = .ok (.aload_n 1, 1) := by decide +kernel
theorem dX8_gainOf_61 : decode cX8_gainOf 61 = .ok (.getfield 232, 3) := by decide +kernel
theorem dX8_gainOf_64 : decode cX8_gainOf 64 = .ok (.iload_n 2, 1) := by decide +kernel
theorem dX8_gainOf_65 : decode cX8_gainOf 65 = .ok (.iconst 3, 1) := by decide +kernel
theorem dX8_gainOf_66 : decode cX8_gainOf 66 = .ok (.invokevirtual 174, 3) := by decide +kernel
theorem dX8_gainOf_69 : decode cX8_gainOf 69 = .ok (.iload_n 3, 1) := by decide +kernel
theorem dX8_gainOf_70 : decode cX8_gainOf 70 = .ok (.imul, 1) := by decide +kernel
theorem dX8_gainOf_71 : decode cX8_gainOf 71 = .ok (.isub, 1) := by decide +kernel
theorem dX8_gainOf_72 : decode cX8_gainOf 72 = .ok (.ireturn, 1) := by decide +kernel
theorem dX8_grams_0 : decode cX8_grams 0 = .ok (.aload_n 0, 1) := by decide +kernel
theorem dX8_grams_1 : decode cX8_grams 1 = .ok (.iload_n 1, 1) := by decide +kernel
theorem dX8_grams_2 : decode cX8_grams 2 = .ok (.iload_n 2, 1) := by decide +kernel
theorem dX8_grams_3 : decode cX8_grams 3 = .ok (.invokevirtual 409, 3) := by decide +kernel
theorem dX8_grams_6 : decode cX8_grams 6 = .ok (.istore_n 3, 1) := by decide +kernel
theorem dX8_grams_7 : decode cX8_grams 7 = .ok (.iload_n 3, 1) := by decide +kernel
theorem dX8_grams_8 : decode cX8_grams 8 = .ok (.iconst (-1), 1) := by decide +kernel
theorem dX8_grams_9 : decode cX8_grams 9 = .ok (.if_icmp .ne 14, 3) := by decide +kernel
theorem dX8_grams_12 : decode cX8_grams 12 = .ok (.new 84, 3) := by decide +kernel
theorem dX8_grams_15 : decode cX8_grams 15 = .ok (.dup, 1) := by decide +kernel
theorem dX8_grams_16 : decode cX8_grams 16 = .ok (.ldc_w 412, 3) := by decide +kernel
theorem dX8_grams_19 : decode cX8_grams 19 = .ok (.invokespecial 88, 3) := by decide +kernel
theorem dX8_grams_22 : decode cX8_grams 22 = .ok (.athrow, 1) := by decide +kernel
theorem dX8_grams_23 : decode cX8_grams 23 = .ok (.aload_n 0, 1) := by decide +kernel
theorem dX8_grams_24 : decode cX8_grams 24 = .ok (.getfield 56, 3) := by decide +kernel
theorem dX8_grams_27 : decode cX8_grams 27 = .ok (.iload_n 3, 1) := by decide +kernel
theorem dX8_grams_28 : decode cX8_grams 28 = .ok (.iaload, 1) := by decide +kernel
theorem dX8_grams_29 : decode cX8_grams 29 = .ok (.ireturn, 1) := by decide +kernel
theorem dX8_count_0 : decode cX8_count 0 = .ok (.iload_n 1, 1) := by decide +kernel
theorem dX8_count_1 : decode cX8_count 1 = .ok (.tableswitch 99 0 7 #[47, 55, 63, 68, 73, 78, 83, 91], 47) := by decide +kernel
theorem dX8_count_48 : decode cX8_count 48 = .ok (.aload_n 0, 1) := by decide +kernel
theorem dX8_count_49 : decode cX8_count 49 = .ok (.getfield 10, 3) := by decide +kernel
theorem dX8_count_52 : decode cX8_count 52 = .ok (.invokevirtual 414, 3) := by decide +kernel
theorem dX8_count_55 : decode cX8_count 55 = .ok (.ireturn, 1) := by decide +kernel
theorem dX8_count_56 : decode cX8_count 56 = .ok (.aload_n 0, 1) := by decide +kernel
theorem dX8_count_57 : decode cX8_count 57 = .ok (.getfield 19, 3) := by decide +kernel
theorem dX8_count_60 : decode cX8_count 60 = .ok (.invokevirtual 140, 3) := by decide +kernel
theorem dX8_count_63 : decode cX8_count 63 = .ok (.ireturn, 1) := by decide +kernel
theorem dX8_count_64 : decode cX8_count 64 = .ok (.aload_n 0, 1) := by decide +kernel
theorem dX8_count_65 : decode cX8_count 65 = .ok (.getfield 63, 3) := by decide +kernel
theorem dX8_count_68 : decode cX8_count 68 = .ok (.ireturn, 1) := by decide +kernel
theorem dX8_count_69 : decode cX8_count 69 = .ok (.aload_n 0, 1) := by decide +kernel
theorem dX8_count_70 : decode cX8_count 70 = .ok (.getfield 70, 3) := by decide +kernel
theorem dX8_count_73 : decode cX8_count 73 = .ok (.ireturn, 1) := by decide +kernel
theorem dX8_count_74 : decode cX8_count 74 = .ok (.aload_n 0, 1) := by decide +kernel
theorem dX8_count_75 : decode cX8_count 75 = .ok (.getfield 67, 3) := by decide +kernel
theorem dX8_count_78 : decode cX8_count 78 = .ok (.ireturn, 1) := by decide +kernel
theorem dX8_count_79 : decode cX8_count 79 = .ok (.aload_n 0, 1) := by decide +kernel
theorem dX8_count_80 : decode cX8_count 80 = .ok (.getfield 73, 3) := by decide +kernel
theorem dX8_count_83 : decode cX8_count 83 = .ok (.ireturn, 1) := by decide +kernel
theorem dX8_count_84 : decode cX8_count 84 = .ok (.aload_n 0, 1) := by decide +kernel
theorem dX8_count_85 : decode cX8_count 85 = .ok (.getfield 33, 3) := by decide +kernel
theorem dX8_count_88 : decode cX8_count 88 = .ok (.invokevirtual 415, 3) := by decide +kernel
theorem dX8_count_91 : decode cX8_count 91 = .ok (.ireturn, 1) := by decide +kernel
theorem dX8_count_92 : decode cX8_count 92 = .ok (.aload_n 0, 1) := by decide +kernel
theorem dX8_count_93 : decode cX8_count 93 = .ok (.getfield 19, 3) := by decide +kernel
theorem dX8_count_96 : decode cX8_count 96 = .ok (.invokevirtual 131, 3) := by decide +kernel
theorem dX8_count_99 : decode cX8_count 99 = .ok (.ireturn, 1) := by decide +kernel
theorem dX8_count_100 : decode cX8_count 100 = .ok (.iconst (-1), 1) := by decide +kernel
theorem dX8_count_101 : decode cX8_count 101 = .ok (.ireturn, 1) := by decide +kernel
theorem dX8_weightPlace_0 : decode cX8_weightPlace 0 = .ok (.iload_n 1, 1) := by decide +kernel
theorem dX8_weightPlace_1 : decode cX8_weightPlace 1 = .ok (.ifCond .lt 22, 3) := by decide +kernel
theorem dX8_weightPlace_4 : decode cX8_weightPlace 4 = .ok (.iload_n 1, 1) := by decide +kernel
theorem dX8_weightPlace_5 : decode cX8_weightPlace 5 = .ok (.iconst 4, 1) := by decide +kernel
theorem dX8_weightPlace_6 : decode cX8_weightPlace 6 = .ok (.if_icmp .ge 17, 3) := by decide +kernel
theorem dX8_weightPlace_9 : decode cX8_weightPlace 9 = .ok (.iload_n 2, 1) := by decide +kernel
theorem dX8_weightPlace_10 : decode cX8_weightPlace 10 = .ok (.ifCond .lt 13, 3) := by decide +kernel
theorem dX8_weightPlace_13 : decode cX8_weightPlace 13 = .ok (.iload_n 2, 1) := by decide +kernel
theorem dX8_weightPlace_14 : decode cX8_weightPlace 14 = .ok (.bipush 6, 2) := by decide +kernel
theorem dX8_weightPlace_16 : decode cX8_weightPlace 16 = .ok (.if_icmp .ge 7, 3) := by decide +kernel
theorem dX8_weightPlace_19 : decode cX8_weightPlace 19 = .ok (.iconst 1, 1) := by decide +kernel
theorem dX8_weightPlace_20 : decode cX8_weightPlace 20 = .ok (.goto 4, 3) := by decide +kernel
theorem dX8_weightPlace_23 : decode cX8_weightPlace 23 = .ok (.iconst 0, 1) := by decide +kernel
theorem dX8_weightPlace_24 : decode cX8_weightPlace 24 = .ok (.istore_n 3, 1) := by decide +kernel
theorem dX8_weightPlace_25 : decode cX8_weightPlace 25 = .ok (.iload_n 1, 1) := by decide +kernel
theorem dX8_weightPlace_26 : decode cX8_weightPlace 26 = .ok (.bipush 6, 2) := by decide +kernel
theorem dX8_weightPlace_28 : decode cX8_weightPlace 28 = .ok (.imul, 1) := by decide +kernel
theorem dX8_weightPlace_29 : decode cX8_weightPlace 29 = .ok (.iload_n 2, 1) := by decide +kernel
theorem dX8_weightPlace_30 : decode cX8_weightPlace 30 = .ok (.iadd, 1) := by decide +kernel
theorem dX8_weightPlace_31 : decode cX8_weightPlace 31 = .ok (.istore 4, 2) := by decide +kernel
theorem dX8_weightPlace_33 : decode cX8_weightPlace 33 = .ok (.iload_n 3, 1) := by decide +kernel
theorem dX8_weightPlace_34 : decode cX8_weightPlace 34 = .ok (.ifCond .eq 23, 3) := by decide +kernel
theorem dX8_weightPlace_37 : decode cX8_weightPlace 37 = .ok (.iload 4, 2) := by decide +kernel
theorem dX8_weightPlace_39 : decode cX8_weightPlace 39 = .ok (.ifCond .lt 18, 3) := by decide +kernel
theorem dX8_weightPlace_42 : decode cX8_weightPlace 42 = .ok (.iload 4, 2) := by decide +kernel
theorem dX8_weightPlace_44 : decode cX8_weightPlace 44 = .ok (.aload_n 0, 1) := by decide +kernel
theorem dX8_weightPlace_45 : decode cX8_weightPlace 45 = .ok (.getfield 56, 3) := by decide +kernel
theorem dX8_weightPlace_48 : decode cX8_weightPlace 48 = .ok (.arraylength, 1) := by decide +kernel
theorem dX8_weightPlace_49 : decode cX8_weightPlace 49 = .ok (.if_icmp .ge 8, 3) := by decide +kernel
theorem dX8_weightPlace_52 : decode cX8_weightPlace 52 = .ok (.iload 4, 2) := by decide +kernel
theorem dX8_weightPlace_54 : decode cX8_weightPlace 54 = .ok (.goto 4, 3) := by decide +kernel
theorem dX8_weightPlace_57 : decode cX8_weightPlace 57 = .ok (.iconst (-1), 1) := by decide +kernel
theorem dX8_weightPlace_58 : decode cX8_weightPlace 58 = .ok (.ireturn, 1) := by decide +kernel
theorem dX8_weigh_0 : decode cX8_weigh 0 = .ok (.aload_n 0, 1) := by decide +kernel
theorem dX8_weigh_1 : decode cX8_weigh 1 = .ok (.aload_n 0, 1) := by decide +kernel
theorem dX8_weigh_2 : decode cX8_weigh 2 = .ok (.getfield 26, 3) := by decide +kernel
theorem dX8_weigh_5 : decode cX8_weigh 5 = .ok (.iload_n 1, 1) := by decide +kernel
theorem dX8_weigh_6 : decode cX8_weigh 6 = .ok (.iload_n 2, 1) := by decide +kernel
theorem dX8_weigh_7 : decode cX8_weigh 7 = .ok (.iconst 5, 1) := by decide +kernel
theorem dX8_weigh_8 : decode cX8_weigh 8 = .ok (.invokevirtual 174, 3) := by decide +kernel
theorem dX8_weigh_11 : decode cX8_weigh 11 = .ok (.iload_n 3, 1) := by decide +kernel
theorem dX8_weigh_12 : decode cX8_weigh 12 = .ok (.invokevirtual 409, 3) := by decide +kernel
theorem dX8_weigh_15 : decode cX8_weigh 15 = .ok (.istore 5, 2) := by decide +kernel
theorem dX8_weigh_17 : decode cX8_weigh 17 = .ok (.iload 5, 2) := by decide +kernel
theorem dX8_weigh_19 : decode cX8_weigh 19 = .ok (.iconst (-1), 1) := by decide +kernel
theorem dX8_weigh_20 : decode cX8_weigh 20 = .ok (.if_icmp .eq 26, 3) := by decide +kernel
theorem dX8_weigh_23 : decode cX8_weigh 23 = .ok (.aload_n 0, 1) := by decide +kernel
theorem dX8_weigh_24 : decode cX8_weigh 24 = .ok (.getfield 56, 3) := by decide +kernel
theorem dX8_weigh_27 : decode cX8_weigh 27 = .ok (.iload 5, 2) := by decide +kernel
theorem dX8_weigh_29 : decode cX8_weigh 29 = .ok (.dup2, 1) := by decide +kernel
theorem dX8_weigh_30 : decode cX8_weigh 30 = .ok (.iaload, 1) := by decide +kernel
theorem dX8_weigh_31 : decode cX8_weigh 31 = .ok (.iload 4, 2) := by decide +kernel
theorem dX8_weigh_33 : decode cX8_weigh 33 = .ok (.aload_n 0, 1) := by decide +kernel
theorem dX8_weigh_34 : decode cX8_weigh 34 = .ok (.getfield 26, 3) := by decide +kernel
theorem dX8_weigh_37 : decode cX8_weigh 37 = .ok (.iload_n 1, 1) := by decide +kernel
theorem dX8_weigh_38 : decode cX8_weigh 38 = .ok (.iload_n 2, 1) := by decide +kernel
theorem dX8_weigh_39 : decode cX8_weigh 39 = .ok (.iconst 4, 1) := by decide +kernel
theorem dX8_weigh_40 : decode cX8_weigh 40 = .ok (.invokevirtual 174, 3) := by decide +kernel
theorem dX8_weigh_43 : decode cX8_weigh 43 = .ok (.imul, 1) := by decide +kernel
theorem dX8_weigh_44 : decode cX8_weigh 44 = .ok (.iadd, 1) := by decide +kernel
theorem dX8_weigh_45 : decode cX8_weigh 45 = .ok (.iastore, 1) := by decide +kernel
theorem dX8_weigh_46 : decode cX8_weigh 46 = .ok (.return_, 1) := by decide +kernel
theorem dX8_undo_0 : decode cX8_undo 0 = .ok (.aload_n 0, 1) := by decide +kernel
theorem dX8_undo_1 : decode cX8_undo 1 = .ok (.getfield 33, 3) := by decide +kernel
theorem dX8_undo_4 : decode cX8_undo 4 = .ok (.invokevirtual 418, 3) := by decide +kernel
theorem dX8_undo_7 : decode cX8_undo 7 = .ok (.istore_n 1, 1) := by decide +kernel
theorem dX8_undo_8 : decode cX8_undo 8 = .ok (.aload_n 0, 1) := by decide +kernel
theorem dX8_undo_9 : decode cX8_undo 9 = .ok (.getfield 33, 3) := by decide +kernel
theorem dX8_undo_12 : decode cX8_undo 12 = .ok (.invokevirtual 421, 3) := by decide +kernel
theorem dX8_undo_15 : decode cX8_undo 15 = .ok (.istore_n 2, 1) := by decide +kernel
theorem dX8_undo_16 : decode cX8_undo 16 = .ok (.aload_n 0, 1) := by decide +kernel
theorem dX8_undo_17 : decode cX8_undo 17 = .ok (.getfield 33, 3) := by decide +kernel
theorem dX8_undo_20 : decode cX8_undo 20 = .ok (.invokevirtual 424, 3) := by decide +kernel
theorem dX8_undo_23 : decode cX8_undo 23 = .ok (.iload_n 1, 1) := by decide +kernel
theorem dX8_undo_24 : decode cX8_undo 24 = .ok (.iconst 3, 1) := by decide +kernel
theorem dX8_undo_25 : decode cX8_undo 25 = .ok (.if_icmp .ne 14, 3) := by decide +kernel
theorem dX8_undo_28 : decode cX8_undo 28 = .ok (.aload_n 0, 1) := by decide +kernel
theorem dX8_undo_29 : decode cX8_undo 29 = .ok (.aload_n 0, 1) := by decide +kernel
theorem dX8_undo_30 : decode cX8_undo 30 = .ok (.iload_n 2, 1) := by decide +kernel
theorem dX8_undo_31 : decode cX8_undo 31 = .ok (.invokevirtual 338, 3) := by decide +kernel
theorem dX8_undo_34 : decode cX8_undo 34 = .ok (.invokevirtual 427, 3) := by decide +kernel
theorem dX8_undo_37 : decode cX8_undo 37 = .ok (.iload_n 1, 1) := by decide +kernel
theorem dX8_undo_38 : decode cX8_undo 38 = .ok (.ireturn, 1) := by decide +kernel
theorem dX8_undo_39 : decode cX8_undo 39 = .ok (.aload_n 0, 1) := by decide +kernel
theorem dX8_undo_40 : decode cX8_undo 40 = .ok (.iload_n 2, 1) := by decide +kernel
theorem dX8_undo_41 : decode cX8_undo 41 = .ok (.invokevirtual 260, 3) := by decide +kernel
theorem dX8_undo_44 : decode cX8_undo 44 = .ok (.astore_n 3, 1) := by decide +kernel
theorem dX8_undo_45 : decode cX8_undo 45 = .ok (.aload_n 3, 1) := by decide +kernel
theorem dX8_undo_46 : decode cX8_undo 46 = .ok (.ifnull 13, 3) := by decide +kernel
theorem dX8_undo_49 : decode cX8_undo 49 = .ok (.iload_n 1, 1) := by decide +kernel
theorem dX8_undo_50 : decode cX8_undo 50 = .ok (.iconst 1, 1) := by decide +kernel
theorem dX8_undo_51 : decode cX8_undo 51 = .ok (.if_icmp .ne 8, 3) := by decide +kernel
theorem dX8_undo_54 : decode cX8_undo 54 = .ok (.aload_n 3, 1) := by decide +kernel
theorem dX8_undo_55 : decode cX8_undo 55 = .ok (.iconst 0, 1) := by decide +kernel
theorem dX8_undo_56 : decode cX8_undo 56 = .ok (.putfield 244, 3) := by decide +kernel
theorem dX8_undo_59 : decode cX8_undo 59 = .ok (.aload_n 3, 1) := by decide +kernel
theorem dX8_undo_60 : decode cX8_undo 60 = .ok (.ifnull 13, 3) := by decide +kernel
theorem dX8_undo_63 : decode cX8_undo 63 = .ok (.iload_n 1, 1) := by decide +kernel
theorem dX8_undo_64 : decode cX8_undo 64 = .ok (.iconst 2, 1) := by decide +kernel
theorem dX8_undo_65 : decode cX8_undo 65 = .ok (.if_icmp .ne 8, 3) := by decide +kernel
theorem dX8_undo_68 : decode cX8_undo 68 = .ok (.aload_n 3, 1) := by decide +kernel
theorem dX8_undo_69 : decode cX8_undo 69 = .ok (.iconst 0, 1) := by decide +kernel
theorem dX8_undo_70 : decode cX8_undo 70 = .ok (.putfield 248, 3) := by decide +kernel
theorem dX8_undo_73 : decode cX8_undo 73 = .ok (.iload_n 1, 1) := by decide +kernel
theorem dX8_undo_74 : decode cX8_undo 74 = .ok (.ireturn, 1) := by decide +kernel
theorem dX8_putBackOn_0 : decode cX8_putBackOn 0 = .ok (.aload_n 1, 1) := by decide +kernel
theorem dX8_putBackOn_1 : decode cX8_putBackOn 1 = .ok (.ifnonnull 4, 3) := by decide +kernel
theorem dX8_putBackOn_4 : decode cX8_putBackOn 4 = .ok (.return_, 1) := by decide +kernel
theorem dX8_putBackOn_5 : decode cX8_putBackOn 5 = .ok (.aload_n 0, 1) := by decide +kernel
theorem dX8_putBackOn_6 : decode cX8_putBackOn 6 = .ok (.aload_n 1, 1) := by decide +kernel
theorem dX8_putBackOn_7 : decode cX8_putBackOn 7 = .ok (.iconst 3, 1) := by decide +kernel
theorem dX8_putBackOn_8 : decode cX8_putBackOn 8 = .ok (.invokevirtual 361, 3) := by decide +kernel
theorem dX8_putBackOn_11 : decode cX8_putBackOn 11 = .ok (.aload_n 0, 1) := by decide +kernel
theorem dX8_putBackOn_12 : decode cX8_putBackOn 12 = .ok (.aload_n 1, 1) := by decide +kernel
theorem dX8_putBackOn_13 : decode cX8_putBackOn 13 = .ok (.getfield 315, 3) := by decide +kernel
theorem dX8_putBackOn_16 : decode cX8_putBackOn 16 = .ok (.invokevirtual 260, 3) := by decide +kernel
theorem dX8_putBackOn_19 : decode cX8_putBackOn 19 = .ok (.astore_n 2, 1) := by decide +kernel
theorem dX8_putBackOn_20 : decode cX8_putBackOn 20 = .ok (.aload_n 2, 1) := by decide +kernel
theorem dX8_putBackOn_21 : decode cX8_putBackOn 21 = .ok (.ifnull 18, 3) := by decide +kernel
theorem dX8_putBackOn_24 : decode cX8_putBackOn 24 = .ok (.aload_n 2, 1) := by decide +kernel
theorem dX8_putBackOn_25 : decode cX8_putBackOn 25 = .ok (.dup, 1) := by decide +kernel
theorem dX8_putBackOn_26 : decode cX8_putBackOn 26 = .ok (.getfield 241, 3) := by decide +kernel
theorem dX8_putBackOn_29 : decode cX8_putBackOn 29 = .ok (.iconst 1, 1) := by decide +kernel
theorem dX8_putBackOn_30 : decode cX8_putBackOn 30 = .ok (.aload_n 1, 1) := by decide +kernel
theorem dX8_putBackOn_31 : decode cX8_putBackOn 31 = .ok (.getfield 318, 3) := by decide +kernel
theorem dX8_putBackOn_34 : decode cX8_putBackOn 34 = .ok (.ishl, 1) := by decide +kernel
theorem dX8_putBackOn_35 : decode cX8_putBackOn 35 = .ok (.ior, 1) := by decide +kernel
theorem dX8_putBackOn_36 : decode cX8_putBackOn 36 = .ok (.putfield 241, 3) := by decide +kernel
theorem dX8_putBackOn_39 : decode cX8_putBackOn 39 = .ok (.return_, 1) := by decide +kernel
theorem dX9_thrown_0 : decode cX9_thrown 0 = .ok (.aload_n 0, 1) := by decide +kernel
theorem dX9_thrown_1 : decode cX9_thrown 1 = .ok (.getfield 1, 3) := by decide +kernel
theorem dX9_thrown_4 : decode cX9_thrown 4 = .ok (.ireturn, 1) := by decide +kernel
theorem dX9_may_0 : decode cX9_may 0 = .ok (.iload_n 1, 1) := by decide +kernel
theorem dX9_may_1 : decode cX9_may 1 = .ok (.ifCond .ne 15, 3) := by decide +kernel
theorem dX9_may_4 : decode cX9_may 4 = .ok (.aload_n 0, 1) := by decide +kernel
theorem dX9_may_5 : decode cX9_may 5 = .ok (.getfield 1, 3) := by decide +kernel
theorem dX9_may_8 : decode cX9_may 8 = .ok (.ifCond .ne 8, 3) := by decide +kernel
theorem dX9_may_11 : decode cX9_may 11 = .ok (.aload_n 0, 1) := by decide +kernel
theorem dX9_may_12 : decode cX9_may 12 = .ok (.iload_n 2, 1) := by decide +kernel
theorem dX9_may_13 : decode cX9_may 13 = .ok (.putfield 1, 3) := by decide +kernel
theorem dX9_may_16 : decode cX9_may 16 = .ok (.aload_n 0, 1) := by decide +kernel
theorem dX9_may_17 : decode cX9_may 17 = .ok (.getfield 1, 3) := by decide +kernel
theorem dX9_may_20 : decode cX9_may 20 = .ok (.ifCond .ne 7, 3) := by decide +kernel
theorem dX9_may_23 : decode cX9_may 23 = .ok (.iconst 1, 1) := by decide +kernel
theorem dX9_may_24 : decode cX9_may 24 = .ok (.goto 4, 3) := by decide +kernel
theorem dX9_may_27 : decode cX9_may 27 = .ok (.iconst 0, 1) := by decide +kernel
theorem dX9_may_28 : decode cX9_may 28 = .ok (.ireturn, 1) := by decide +kernel
theorem dX9_init_0 : decode cX9_init 0 = .ok (.aload_n 0, 1) := by decide +kernel
theorem dX9_init_1 : decode cX9_init 1 = .ok (.invokespecial 7, 3) := by decide +kernel
theorem dX9_init_4 : decode cX9_init 4 = .ok (.aload_n 0, 1) := by decide +kernel
theorem dX9_init_5 : decode cX9_init 5 = .ok (.bipush 8, 2) := by decide +kernel
theorem dX9_init_7 : decode cX9_init 7 = .ok (.newarray .int, 2) := by decide +kernel
theorem dX9_init_9 : decode cX9_init 9 = .ok (.putfield 13, 3) := by decide +kernel
theorem dX9_init_12 : decode cX9_init 12 = .ok (.aload_n 0, 1) := by decide +kernel
theorem dX9_init_13 : decode cX9_init 13 = .ok (.sipush 128, 3) := by decide +kernel
theorem dX9_init_16 : decode cX9_init 16 = .ok (.newarray .int, 2) := by decide +kernel
theorem dX9_init_18 : decode cX9_init 18 = .ok (.putfield 17, 3) := by decide +kernel
theorem dX9_init_21 : decode cX9_init 21 = .ok (.aload_n 0, 1) := by decide +kernel
theorem dX9_init_22 : decode cX9_init 22 = .ok (.sipush 1536, 3) := by decide +kernel
theorem dX9_init_25 : decode cX9_init 25 = .ok (.newarray .long, 2) := by decide +kernel
theorem dX9_init_27 : decode cX9_init 27 = .ok (.putfield 20, 3) := by decide +kernel
theorem dX9_init_30 : decode cX9_init 30 = .ok (.aload_n 0, 1) := by decide +kernel
theorem dX9_init_31 : decode cX9_init 31 = .ok (.bipush 100, 2) := by decide +kernel
theorem dX9_init_33 : decode cX9_init 33 = .ok (.newarray .int, 2) := by decide +kernel
theorem dX9_init_35 : decode cX9_init 35 = .ok (.putfield 24, 3) := by decide +kernel
theorem dX9_init_38 : decode cX9_init 38 = .ok (.aload_n 0, 1) := by decide +kernel
theorem dX9_init_39 : decode cX9_init 39 = .ok (.bipush 31, 2) := by decide +kernel
theorem dX9_init_41 : decode cX9_init 41 = .ok (.newarray .int, 2) := by decide +kernel
theorem dX9_init_43 : decode cX9_init 43 = .ok (.putfield 27, 3) := by decide +kernel
theorem dX9_init_46 : decode cX9_init 46 = .ok (.aload_n 0, 1) := by decide +kernel
theorem dX9_init_47 : decode cX9_init 47 = .ok (.sipush 3200, 3) := by decide +kernel
theorem dX9_init_50 : decode cX9_init 50 = .ok (.newarray .int, 2) := by decide +kernel
theorem dX9_init_52 : decode cX9_init 52 = .ok (.putfield 30, 3) := by decide +kernel
theorem dX9_init_55 : decode cX9_init 55 = .ok (.aload_n 0, 1) := by decide +kernel
theorem dX9_init_56 : decode cX9_init 56 = .ok (.sipush 3200, 3) := by decide +kernel
theorem dX9_init_59 : decode cX9_init 59 = .ok (.newarray .int, 2) := by decide +kernel
theorem dX9_init_61 : decode cX9_init 61 = .ok (.putfield 33, 3) := by decide +kernel
theorem dX9_init_64 : decode cX9_init 64 = .ok (.aload_n 0, 1) := by decide +kernel
theorem dX9_init_65 : decode cX9_init 65 = .ok (.sipush 3200, 3) := by decide +kernel
theorem dX9_init_68 : decode cX9_init 68 = .ok (.newarray .int, 2) := by decide +kernel
theorem dX9_init_70 : decode cX9_init 70 = .ok (.putfield 36, 3) := by decide +kernel
theorem dX9_init_73 : decode cX9_init 73 = .ok (.aload_n 0, 1) := by decide +kernel
theorem dX9_init_74 : decode cX9_init 74 = .ok (.bipush 110, 2) := by decide +kernel
theorem dX9_init_76 : decode cX9_init 76 = .ok (.newarray .int, 2) := by decide +kernel
theorem dX9_init_78 : decode cX9_init 78 = .ok (.putfield 39, 3) := by decide +kernel
theorem dX9_init_81 : decode cX9_init 81 = .ok (.aload_n 0, 1) := by decide +kernel
theorem dX9_init_82 : decode cX9_init 82 = .ok (.bipush 110, 2) := by decide +kernel
theorem dX9_init_84 : decode cX9_init 84 = .ok (.newarray .boolean, 2) := by decide +kernel
theorem dX9_init_86 : decode cX9_init 86 = .ok (.putfield 42, 3) := by decide +kernel
theorem dX9_init_89 : decode cX9_init 89 = .ok (.aload_n 0, 1) := by decide +kernel
theorem dX9_init_90 : decode cX9_init 90 = .ok (.bipush 8, 2) := by decide +kernel
theorem dX9_init_92 : decode cX9_init 92 = .ok (.newarray .int, 2) := by decide +kernel
theorem dX9_init_94 : decode cX9_init 94 = .ok (.putfield 46, 3) := by decide +kernel
theorem dX9_init_97 : decode cX9_init 97 = .ok (.aload_n 0, 1) := by decide +kernel
theorem dX9_init_98 : decode cX9_init 98 = .ok (.sipush 192, 3) := by decide +kernel
theorem dX9_init_101 : decode cX9_init 101 = .ok (.newarray .int, 2) := by decide +kernel
theorem dX9_init_103 : decode cX9_init 103 = .ok (.putfield 49, 3) := by decide +kernel
theorem dX9_init_106 : decode cX9_init 106 = .ok (.aload_n 0, 1) := by decide +kernel
theorem dX9_init_107 : decode cX9_init 107 = .ok (.sipush 192, 3) := by decide +kernel
theorem dX9_init_110 : decode cX9_init 110 = .ok (.newarray .int, 2) := by decide +kernel
theorem dX9_init_112 : decode cX9_init 112 = .ok (.putfield 52, 3) := by decide +kernel
theorem dX9_init_115 : decode cX9_init 115 = .ok (.aload_n 0, 1) := by decide +kernel
theorem dX9_init_116 : decode cX9_init 116 = .ok (.sipush 192, 3) := by decide +kernel
theorem dX9_init_119 : decode cX9_init 119 = .ok (.newarray .int, 2) := by decide +kernel
theorem dX9_init_121 : decode cX9_init 121 = .ok (.putfield 55, 3) := by decide +kernel
theorem dX9_init_124 : decode cX9_init 124 = .ok (.aload_n 0, 1) := by decide +kernel
theorem dX9_init_125 : decode cX9_init 125 = .ok (.sipush 192, 3) := by decide +kernel
theorem dX9_init_128 : decode cX9_init 128 = .ok (.newarray .int, 2) := by decide +kernel
theorem dX9_init_130 : decode cX9_init 130 = .ok (.putfield 58, 3) := by decide +kernel
theorem dX9_init_133 : decode cX9_init 133 = .ok (.aload_n 0, 1) := by decide +kernel
theorem dX9_init_134 : decode cX9_init 134 = .ok (.sipush 192, 3) := by decide +kernel
theorem dX9_init_137 : decode cX9_init 137 = .ok (.newarray .int, 2) := by decide +kernel
theorem dX9_init_139 : decode cX9_init 139 = .ok (.putfield 61, 3) := by decide +kernel
theorem dX9_init_142 : decode cX9_init 142 = .ok (.aload_n 0, 1) := by decide +kernel
theorem dX9_init_143 : decode cX9_init 143 = .ok (.sipush 192, 3) := by decide +kernel
theorem dX9_init_146 : decode cX9_init 146 = .ok (.newarray .int, 2) := by decide +kernel
theorem dX9_init_148 : decode cX9_init 148 = .ok (.putfield 64, 3) := by decide +kernel
theorem dX9_init_151 : decode cX9_init 151 = .ok (.aload_n 0, 1) := by decide +kernel
theorem dX9_init_152 : decode cX9_init 152 = .ok (.sipush 192, 3) := by decide +kernel
theorem dX9_init_155 : decode cX9_init 155 = .ok (.newarray .int, 2) := by decide +kernel
theorem dX9_init_157 : decode cX9_init 157 = .ok (.putfield 67, 3) := by decide +kernel
theorem dX9_init_160 : decode cX9_init 160 = .ok (.aload_n 0, 1) := by decide +kernel
theorem dX9_init_161 : decode cX9_init 161 = .ok (.sipush 192, 3) := by decide +kernel
theorem dX9_init_164 : decode cX9_init 164 = .ok (.newarray .int, 2) := by decide +kernel
theorem dX9_init_166 : decode cX9_init 166 = .ok (.putfield 70, 3) := by decide +kernel
theorem dX9_init_169 : decode cX9_init 169 = .ok (.aload_n 0, 1) := by decide +kernel
theorem dX9_init_170 : decode cX9_init 170 = .ok (.bipush 40, 2) := by decide +kernel
theorem dX9_init_172 : decode cX9_init 172 = .ok (.newarray .int, 2) := by decide +kernel
theorem dX9_init_174 : decode cX9_init 174 = .ok (.putfield 73, 3) := by decide +kernel
theorem dX9_init_177 : decode cX9_init 177 = .ok (.aload_n 0, 1) := by decide +kernel
theorem dX9_init_178 : decode cX9_init 178 = .ok (.bipush 40, 2) := by decide +kernel
theorem dX9_init_180 : decode cX9_init 180 = .ok (.newarray .int, 2) := by decide +kernel
theorem dX9_init_182 : decode cX9_init 182 = .ok (.putfield 76, 3) := by decide +kernel
theorem dX9_init_185 : decode cX9_init 185 = .ok (.aload_n 0, 1) := by decide +kernel
theorem dX9_init_186 : decode cX9_init 186 = .ok (.bipush 40, 2) := by decide +kernel
theorem dX9_init_188 : decode cX9_init 188 = .ok (.newarray .int, 2) := by decide +kernel
theorem dX9_init_190 : decode cX9_init 190 = .ok (.putfield 79, 3) := by decide +kernel
theorem dX9_init_193 : decode cX9_init 193 = .ok (.aload_n 0, 1) := by decide +kernel
theorem dX9_init_194 : decode cX9_init 194 = .ok (.bipush 40, 2) := by decide +kernel
theorem dX9_init_196 : decode cX9_init 196 = .ok (.newarray .int, 2) := by decide +kernel
theorem dX9_init_198 : decode cX9_init 198 = .ok (.putfield 82, 3) := by decide +kernel
theorem dX9_init_201 : decode cX9_init 201 = .ok (.aload_n 0, 1) := by decide +kernel
theorem dX9_init_202 : decode cX9_init 202 = .ok (.bipush 40, 2) := by decide +kernel
theorem dX9_init_204 : decode cX9_init 204 = .ok (.newarray .int, 2) := by decide +kernel
theorem dX9_init_206 : decode cX9_init 206 = .ok (.putfield 85, 3) := by decide +kernel
theorem dX9_init_209 : decode cX9_init 209 = .ok (.aload_n 0, 1) := by decide +kernel
theorem dX9_init_210 : decode cX9_init 210 = .ok (.bipush 40, 2) := by decide +kernel
theorem dX9_init_212 : decode cX9_init 212 = .ok (.newarray .int, 2) := by decide +kernel
theorem dX9_init_214 : decode cX9_init 214 = .ok (.putfield 88, 3) := by decide +kernel
theorem dX9_init_217 : decode cX9_init 217 = .ok (.aload_n 0, 1) := by decide +kernel
theorem dX9_init_218 : decode cX9_init 218 = .ok (.bipush 40, 2) := by decide +kernel
theorem dX9_init_220 : decode cX9_init 220 = .ok (.newarray .boolean, 2) := by decide +kernel
theorem dX9_init_222 : decode cX9_init 222 = .ok (.putfield 91, 3) := by decide +kernel
theorem dX9_init_225 : decode cX9_init 225 = .ok (.aload_n 0, 1) := by decide +kernel
theorem dX9_init_226 : decode cX9_init 226 = .ok (.bipush 40, 2) := by decide +kernel
theorem dX9_init_228 : decode cX9_init 228 = .ok (.newarray .boolean, 2) := by decide +kernel
theorem dX9_init_230 : decode cX9_init 230 = .ok (.putfield 94, 3) := by decide +kernel
theorem dX9_init_233 : decode cX9_init 233 = .ok (.aload_n 0, 1) := by decide +kernel
theorem dX9_init_234 : decode cX9_init 234 = .ok (.bipush 40, 2) := by decide +kernel
theorem dX9_init_236 : decode cX9_init 236 = .ok (.newarray .boolean, 2) := by decide +kernel
theorem dX9_init_238 : decode cX9_init 238 = .ok (.putfield 97, 3) := by decide +kernel
theorem dX9_init_241 : decode cX9_init 241 = .ok (.aload_n 0, 1) := by decide +kernel
theorem dX9_init_242 : decode cX9_init 242 = .ok (.iconst 4, 1) := by decide +kernel
theorem dX9_init_243 : decode cX9_init 243 = .ok (.newarray .long, 2) := by decide +kernel
theorem dX9_init_245 : decode cX9_init 245 = .ok (.putfield 100, 3) := by decide +kernel
theorem dX9_init_248 : decode cX9_init 248 = .ok (.aload_n 0, 1) := by decide +kernel
theorem dX9_init_249 : decode cX9_init 249 = .ok (.iconst 4, 1) := by decide +kernel
theorem dX9_init_250 : decode cX9_init 250 = .ok (.newarray .long, 2) := by decide +kernel
theorem dX9_init_252 : decode cX9_init 252 = .ok (.putfield 103, 3) := by decide +kernel
theorem dX9_init_255 : decode cX9_init 255 = .ok (.aload_n 0, 1) := by decide +kernel
theorem dX9_init_256 : decode cX9_init 256 = .ok (.iconst 4, 1) := by decide +kernel
theorem dX9_init_257 : decode cX9_init 257 = .ok (.newarray .long, 2) := by decide +kernel
theorem dX9_init_259 : decode cX9_init 259 = .ok (.putfield 106, 3) := by decide +kernel
theorem dX9_init_262 : decode cX9_init 262 = .ok (.aload_n 0, 1) := by decide +kernel
theorem dX9_init_263 : decode cX9_init 263 = .ok (.iconst 4, 1) := by decide +kernel
theorem dX9_init_264 : decode cX9_init 264 = .ok (.newarray .long, 2) := by decide +kernel
theorem dX9_init_266 : decode cX9_init 266 = .ok (.putfield 109, 3) := by decide +kernel
theorem dX9_init_269 : decode cX9_init 269 = .ok (.aload_n 0, 1) := by decide +kernel
theorem dX9_init_270 : decode cX9_init 270 = .ok (.iconst 4, 1) := by decide +kernel
theorem dX9_init_271 : decode cX9_init 271 = .ok (.newarray .long, 2) := by decide +kernel
theorem dX9_init_273 : decode cX9_init 273 = .ok (.putfield 112, 3) := by decide +kernel
theorem dX9_init_276 : decode cX9_init 276 = .ok (.aload_n 0, 1) := by decide +kernel
theorem dX9_init_277 : decode cX9_init 277 = .ok (.bipush 10, 2) := by decide +kernel
theorem dX9_init_279 : decode cX9_init 279 = .ok (.newarray .int, 2) := by decide +kernel
theorem dX9_init_281 : decode cX9_init 281 = .ok (.putfield 115, 3) := by decide +kernel
theorem dX9_init_284 : decode cX9_init 284 = .ok (.aload_n 0, 1) := by decide +kernel
theorem dX9_init_285 : decode cX9_init 285 = .ok (.bipush 10, 2) := by decide +kernel
theorem dX9_init_287 : decode cX9_init 287 = .ok (.newarray .int, 2) := by decide +kernel
theorem dX9_init_289 : decode cX9_init 289 = .ok (.putfield 118, 3) := by decide +kernel
theorem dX9_init_292 : decode cX9_init 292 = .ok (.aload_n 0, 1) := by decide +kernel
theorem dX9_init_293 : decode cX9_init 293 = .ok (.bipush 10, 2) := by decide +kernel
theorem dX9_init_295 : decode cX9_init 295 = .ok (.newarray .int, 2) := by decide +kernel
theorem dX9_init_297 : decode cX9_init 297 = .ok (.putfield 121, 3) := by decide +kernel
theorem dX9_init_300 : decode cX9_init 300 = .ok (.aload_n 0, 1) := by decide +kernel
theorem dX9_init_301 : decode cX9_init 301 = .ok (.sipush 400, 3) := by decide +kernel
theorem dX9_init_304 : decode cX9_init 304 = .ok (.newarray .int, 2) := by decide +kernel
theorem dX9_init_306 : decode cX9_init 306 = .ok (.putfield 124, 3) := by decide +kernel
theorem dX9_init_309 : decode cX9_init 309 = .ok (.aload_n 0, 1) := by decide +kernel
theorem dX9_init_310 : decode cX9_init 310 = .ok (.sipush 400, 3) := by decide +kernel
theorem dX9_init_313 : decode cX9_init 313 = .ok (.newarray .int, 2) := by decide +kernel
theorem dX9_init_315 : decode cX9_init 315 = .ok (.putfield 127, 3) := by decide +kernel
theorem dX9_init_318 : decode cX9_init 318 = .ok (.aload_n 0, 1) := by decide +kernel
theorem dX9_init_319 : decode cX9_init 319 = .ok (.sipush 400, 3) := by decide +kernel
theorem dX9_init_322 : decode cX9_init 322 = .ok (.newarray .int, 2) := by decide +kernel
theorem dX9_init_324 : decode cX9_init 324 = .ok (.putfield 130, 3) := by decide +kernel
theorem dX9_init_327 : decode cX9_init 327 = .ok (.aload_n 0, 1) := by decide +kernel
theorem dX9_init_328 : decode cX9_init 328 = .ok (.sipush 400, 3) := by decide +kernel
theorem dX9_init_331 : decode cX9_init 331 = .ok (.newarray .int, 2) := by decide +kernel
theorem dX9_init_333 : decode cX9_init 333 = .ok (.putfield 133, 3) := by decide +kernel
theorem dX9_init_336 : decode cX9_init 336 = .ok (.aload_n 0, 1) := by decide +kernel
theorem dX9_init_337 : decode cX9_init 337 = .ok (.sipush 400, 3) := by decide +kernel
theorem dX9_init_340 : decode cX9_init 340 = .ok (.newarray .int, 2) := by decide +kernel
theorem dX9_init_342 : decode cX9_init 342 = .ok (.putfield 136, 3) := by decide +kernel
theorem dX9_init_345 : decode cX9_init 345 = .ok (.aload_n 0, 1) := by decide +kernel
theorem dX9_init_346 : decode cX9_init 346 = .ok (.bipush 60, 2) := by decide +kernel
theorem dX9_init_348 : decode cX9_init 348 = .ok (.newarray .int, 2) := by decide +kernel
theorem dX9_init_350 : decode cX9_init 350 = .ok (.putfield 139, 3) := by decide +kernel
theorem dX9_init_353 : decode cX9_init 353 = .ok (.aload_n 0, 1) := by decide +kernel
theorem dX9_init_354 : decode cX9_init 354 = .ok (.bipush 60, 2) := by decide +kernel
theorem dX9_init_356 : decode cX9_init 356 = .ok (.newarray .int, 2) := by decide +kernel
theorem dX9_init_358 : decode cX9_init 358 = .ok (.putfield 142, 3) := by decide +kernel
theorem dX9_init_361 : decode cX9_init 361 = .ok (.aload_n 0, 1) := by decide +kernel
theorem dX9_init_362 : decode cX9_init 362 = .ok (.bipush 60, 2) := by decide +kernel
theorem dX9_init_364 : decode cX9_init 364 = .ok (.newarray .boolean, 2) := by decide +kernel
theorem dX9_init_366 : decode cX9_init 366 = .ok (.putfield 145, 3) := by decide +kernel
theorem dX9_init_369 : decode cX9_init 369 = .ok (.aload_n 0, 1) := by decide +kernel
theorem dX9_init_370 : decode cX9_init 370 = .ok (.bipush 24, 2) := by decide +kernel
theorem dX9_init_372 : decode cX9_init 372 = .ok (.newarray .int, 2) := by decide +kernel
theorem dX9_init_374 : decode cX9_init 374 = .ok (.putfield 148, 3) := by decide +kernel
theorem dX9_init_377 : decode cX9_init 377 = .ok (.iconst 0, 1) := by decide +kernel
theorem dX9_init_378 : decode cX9_init 378 = .ok (.istore_n 1, 1) := by decide +kernel
theorem dX9_init_379 : decode cX9_init 379 = .ok (.iload_n 1, 1) := by decide +kernel
theorem dX9_init_380 : decode cX9_init 380 = .ok (.sipush 128, 3) := by decide +kernel
theorem dX9_init_383 : decode cX9_init 383 = .ok (.if_icmp .ge 16, 3) := by decide +kernel
theorem dX9_init_386 : decode cX9_init 386 = .ok (.aload_n 0, 1) := by decide +kernel
theorem dX9_init_387 : decode cX9_init 387 = .ok (.getfield 17, 3) := by decide +kernel
theorem dX9_init_390 : decode cX9_init 390 = .ok (.iload_n 1, 1) := by decide +kernel
theorem dX9_init_391 : decode cX9_init 391 = .ok (.iconst (-1), 1) := by decide +kernel
theorem dX9_init_392 : decode cX9_init 392 = .ok (.iastore, 1) := by decide +kernel
theorem dX9_init_393 : decode cX9_init 393 = .ok (.iinc 1 1, 3) := by decide +kernel
theorem dX9_init_396 : decode cX9_init 396 = .ok (.goto (-17), 3) := by decide +kernel
theorem dX9_init_399 : decode cX9_init 399 = .ok (.return_, 1) := by decide +kernel
theorem dX9_sheet_0 : decode cX9_sheet 0 = .ok (.aload_n 0, 1) := by decide +kernel
theorem dX9_sheet_1 : decode cX9_sheet 1 = .ok (.iconst 0, 1) := by decide +kernel
theorem dX9_sheet_2 : decode cX9_sheet 2 = .ok (.putfield 1, 3) := by decide +kernel
theorem dX9_sheet_5 : decode cX9_sheet 5 = .ok (.aload_n 0, 1) := by decide +kernel
theorem dX9_sheet_6 : decode cX9_sheet 6 = .ok (.iload_n 1, 1) := by decide +kernel
theorem dX9_sheet_7 : decode cX9_sheet 7 = .ok (.ifCond .lt 12, 3) := by decide +kernel
theorem dX9_sheet_10 : decode cX9_sheet 10 = .ok (.iload_n 1, 1) := by decide +kernel
theorem dX9_sheet_11 : decode cX9_sheet 11 = .ok (.iconst 2, 1) := by decide +kernel
theorem dX9_sheet_12 : decode cX9_sheet 12 = .ok (.if_icmp .gt 7, 3) := by decide +kernel
theorem dX9_sheet_15 : decode cX9_sheet 15 = .ok (.iconst 1, 1) := by decide +kernel
theorem dX9_sheet_16 : decode cX9_sheet 16 = .ok (.goto 4, 3) := by decide +kernel
theorem dX9_sheet_19 : decode cX9_sheet 19 = .ok (.iconst 0, 1) := by decide +kernel
theorem dX9_sheet_20 : decode cX9_sheet 20 = .ok (.iconst 1, 1) := by decide +kernel
theorem dX9_sheet_21 : decode cX9_sheet 21 = .ok (.invokevirtual 151, 3) := by decide +kernel
theorem dX9_sheet_24 : decode cX9_sheet 24 = .ok (.ifCond .eq 25, 3) := by decide +kernel
theorem dX9_sheet_27 : decode cX9_sheet 27 = .ok (.aload_n 0, 1) := by decide +kernel
theorem dX9_sheet_28 : decode cX9_sheet 28 = .ok (.aload_n 0, 1) := by decide +kernel
theorem dX9_sheet_29 : decode cX9_sheet 29 = .ok (.getfield 155, 3) := by decide +kernel
theorem dX9_sheet_32 : decode cX9_sheet 32 = .ok (.bipush 8, 2) := by decide +kernel
theorem dX9_sheet_34 : decode cX9_sheet 34 = .ok (.if_icmp .ge 7, 3) := by decide +kernel
theorem dX9_sheet_37 : decode cX9_sheet 37 = .ok (.iconst 1, 1) := by decide +kernel
theorem dX9_sheet_38 : decode cX9_sheet 38 = .ok (.goto 4, 3) := by decide +kernel
theorem dX9_sheet_41 : decode cX9_sheet 41 = .ok (.iconst 0, 1) := by decide +kernel
theorem dX9_sheet_42 : decode cX9_sheet 42 = .ok (.iconst 2, 1) := by decide +kernel
theorem dX9_sheet_43 : decode cX9_sheet 43 = .ok (.invokevirtual 151, 3) := by decide +kernel
theorem dX9_sheet_46 : decode cX9_sheet 46 = .ok (.ifCond .ne 5, 3) := by decide +kernel
theorem dX9_sheet_49 : decode cX9_sheet 49 = .ok (.iconst 0, 1) := by decide +kernel
theorem dX9_sheet_50 : decode cX9_sheet 50 = .ok (.ireturn, 1) := by decide +kernel
theorem dX9_sheet_51 : decode cX9_sheet 51 = .ok (.aload_n 0, 1) := by decide +kernel
theorem dX9_sheet_52 : decode cX9_sheet 52 = .ok (.getfield 13, 3) := by decide +kernel
theorem dX9_sheet_55 : decode cX9_sheet 55 = .ok (.aload_n 0, 1) := by decide +kernel
theorem dX9_sheet_56 : decode cX9_sheet 56 = .ok (.getfield 155, 3) := by decide +kernel
theorem dX9_sheet_59 : decode cX9_sheet 59 = .ok (.iload_n 1, 1) := by decide +kernel
theorem dX9_sheet_60 : decode cX9_sheet 60 = .ok (.iastore, 1) := by decide +kernel
theorem dX9_sheet_61 : decode cX9_sheet 61 = .ok (.aload_n 0, 1) := by decide +kernel
theorem dX9_sheet_62 : decode cX9_sheet 62 = .ok (.dup, 1) := by decide +kernel
theorem dX9_sheet_63 : decode cX9_sheet 63 = .ok (.getfield 155, 3) := by decide +kernel
theorem dX9_sheet_66 : decode cX9_sheet 66 = .ok (.iconst 1, 1) := by decide +kernel
theorem dX9_sheet_67 : decode cX9_sheet 67 = .ok (.iadd, 1) := by decide +kernel
theorem dX9_sheet_68 : decode cX9_sheet 68 = .ok (.putfield 155, 3) := by decide +kernel
theorem dX9_sheet_71 : decode cX9_sheet 71 = .ok (.aload_n 0, 1) := by decide +kernel
theorem dX9_sheet_72 : decode cX9_sheet 72 = .ok (.getfield 155, 3) := by decide +kernel
theorem dX9_sheet_75 : decode cX9_sheet 75 = .ok (.iconst 1, 1) := by decide +kernel
theorem dX9_sheet_76 : decode cX9_sheet 76 = .ok (.isub, 1) := by decide +kernel
theorem dX9_sheet_77 : decode cX9_sheet 77 = .ok (.ireturn, 1) := by decide +kernel
theorem dX9_isRow_0 : decode cX9_isRow 0 = .ok (.aload_n 0, 1) := by decide +kernel
theorem dX9_isRow_1 : decode cX9_isRow 1 = .ok (.iload_n 1, 1) := by decide +kernel
theorem dX9_isRow_2 : decode cX9_isRow 2 = .ok (.ifCond .lt 25, 3) := by decide +kernel
theorem dX9_isRow_5 : decode cX9_isRow 5 = .ok (.iload_n 1, 1) := by decide +kernel
theorem dX9_isRow_6 : decode cX9_isRow 6 = .ok (.aload_n 0, 1) := by decide +kernel
theorem dX9_isRow_7 : decode cX9_isRow 7 = .ok (.getfield 155, 3) := by decide +kernel
theorem dX9_isRow_10 : decode cX9_isRow 10 = .ok (.if_icmp .ge 17, 3) := by decide +kernel
theorem dX9_isRow_13 : decode cX9_isRow 13 = .ok (.iload_n 2, 1) := by decide +kernel
theorem dX9_isRow_14 : decode cX9_isRow 14 = .ok (.ifCond .lt 13, 3) := by decide +kernel
theorem dX9_isRow_17 : decode cX9_isRow 17 = .ok (.iload_n 2, 1) := by decide +kernel
theorem dX9_isRow_18 : decode cX9_isRow 18 = .ok (.bipush 16, 2) := by decide +kernel
theorem dX9_isRow_20 : decode cX9_isRow 20 = .ok (.if_icmp .ge 7, 3) := by decide +kernel
theorem dX9_isRow_23 : decode cX9_isRow 23 = .ok (.iconst 1, 1) := by decide +kernel
theorem dX9_isRow_24 : decode cX9_isRow 24 = .ok (.goto 4, 3) := by decide +kernel
theorem dX9_isRow_27 : decode cX9_isRow 27 = .ok (.iconst 0, 1) := by decide +kernel
theorem dX9_isRow_28 : decode cX9_isRow 28 = .ok (.iload_n 3, 1) := by decide +kernel
theorem dX9_isRow_29 : decode cX9_isRow 29 = .ok (.invokevirtual 151, 3) := by decide +kernel
theorem dX9_isRow_32 : decode cX9_isRow 32 = .ok (.ireturn, 1) := by decide +kernel
theorem dX9_row_0 : decode cX9_row 0 = .ok (.aload_n 0, 1) := by decide +kernel
theorem dX9_row_1 : decode cX9_row 1 = .ok (.iconst 0, 1) := by decide +kernel
theorem dX9_row_2 : decode cX9_row 2 = .ok (.putfield 1, 3) := by decide +kernel
theorem dX9_row_5 : decode cX9_row 5 = .ok (.aload_n 0, 1) := by decide +kernel
theorem dX9_row_6 : decode cX9_row 6 = .ok (.iload_n 1, 1) := by decide +kernel
theorem dX9_row_7 : decode cX9_row 7 = .ok (.iload_n 2, 1) := by decide +kernel
theorem dX9_row_8 : decode cX9_row 8 = .ok (.iconst 1, 1) := by decide +kernel
theorem dX9_row_9 : decode cX9_row 9 = .ok (.invokevirtual 158, 3) := by decide +kernel
theorem dX9_row_12 : decode cX9_row 12 = .ok (.ifCond .ne 5, 3) := by decide +kernel
theorem dX9_row_15 : decode cX9_row 15 = .ok (.iconst 0, 1) := by decide +kernel
theorem dX9_row_16 : decode cX9_row 16 = .ok (.ireturn, 1) := by decide +kernel
theorem dX9_row_17 : decode cX9_row 17 = .ok (.iload_n 3, 1) := by decide +kernel
theorem dX9_row_18 : decode cX9_row 18 = .ok (.ifCond .lt 9, 3) := by decide +kernel
theorem dX9_row_21 : decode cX9_row 21 = .ok (.iload_n 3, 1) := by decide +kernel
theorem dX9_row_22 : decode cX9_row 22 = .ok (.bipush 12, 2) := by decide +kernel
theorem dX9_row_24 : decode cX9_row 24 = .ok (.if_icmp .le 5, 3) := by decide +kernel
theorem dX9_row_27 : decode cX9_row 27 = .ok (.iconst (-1), 1) := by decide +kernel
theorem dX9_row_28 : decode cX9_row 28 = .ok (.ireturn, 1) := by decide +kernel
theorem dX9_row_29 : decode cX9_row 29 = .ok (.bipush 16, 2) := by decide +kernel
theorem dX9_row_31 : decode cX9_row 31 = .ok (.iload_n 1, 1) := by decide +kernel
theorem dX9_row_32 : decode cX9_row 32 = .ok (.imul, 1) := by decide +kernel
theorem dX9_row_33 : decode cX9_row 33 = .ok (.iload_n 2, 1) := by decide +kernel
theorem dX9_row_34 : decode cX9_row 34 = .ok (.iadd, 1) := by decide +kernel
theorem dX9_row_35 : decode cX9_row 35 = .ok (.istore 4, 2) := by decide +kernel
theorem dX9_row_37 : decode cX9_row 37 = .ok (.aload_n 0, 1) := by decide +kernel
theorem dX9_row_38 : decode cX9_row 38 = .ok (.getfield 17, 3) := by decide +kernel
theorem dX9_row_41 : decode cX9_row 41 = .ok (.iload 4, 2) := by decide +kernel
theorem dX9_row_43 : decode cX9_row 43 = .ok (.iload_n 3, 1) := by decide +kernel
theorem dX9_row_44 : decode cX9_row 44 = .ok (.iastore, 1) := by decide +kernel
theorem dX9_row_45 : decode cX9_row 45 = .ok (.iconst 0, 1) := by decide +kernel
theorem dX9_row_46 : decode cX9_row 46 = .ok (.istore 5, 2) := by decide +kernel
theorem dX9_row_48 : decode cX9_row 48 = .ok (.iload 5, 2) := by decide +kernel
theorem dX9_row_50 : decode cX9_row 50 = .ok (.bipush 12, 2) := by decide +kernel
theorem dX9_row_52 : decode cX9_row 52 = .ok (.if_icmp .ge 23, 3) := by decide +kernel
theorem dX9_row_55 : decode cX9_row 55 = .ok (.aload_n 0, 1) := by decide +kernel
theorem dX9_row_56 : decode cX9_row 56 = .ok (.getfield 20, 3) := by decide +kernel
theorem dX9_row_59 : decode cX9_row 59 = .ok (.bipush 12, 2) := by decide +kernel
theorem dX9_row_61 : decode cX9_row 61 = .ok (.iload 4, 2) := by decide +kernel
theorem dX9_row_63 : decode cX9_row 63 = .ok (.imul, 1) := by decide +kernel
theorem dX9_row_64 : decode cX9_row 64 = .ok (.iload 5, 2) := by decide +kernel
theorem dX9_row_66 : decode cX9_row 66 = .ok (.iadd, 1) := by decide +kernel
theorem dX9_row_67 : decode cX9_row 67 = .ok (.lconst 0, 1) := by decide +kernel
theorem dX9_row_68 : decode cX9_row 68 = .ok (.lastore, 1) := by decide +kernel
theorem dX9_row_69 : decode cX9_row 69 = .ok (.iinc 5 1, 3) := by decide +kernel
theorem dX9_row_72 : decode cX9_row 72 = .ok (.goto (-24), 3) := by decide +kernel
theorem dX9_row_75 : decode cX9_row 75 = .ok (.iload_n 3, 1) := by decide +kernel
theorem dX9_row_76 : decode cX9_row 76 = .ok (.ireturn, 1) := by decide +kernel
theorem dX9_put_0 : decode cX9_put 0 = .ok (.aload_n 0, 1) := by decide +kernel
theorem dX9_put_1 : decode cX9_put 1 = .ok (.iconst 0, 1) := by decide +kernel
theorem dX9_put_2 : decode cX9_put 2 = .ok (.putfield 1, 3) := by decide +kernel
theorem dX9_put_5 : decode cX9_put 5 = .ok (.aload_n 0, 1) := by decide +kernel
theorem dX9_put_6 : decode cX9_put 6 = .ok (.iload_n 1, 1) := by decide +kernel
theorem dX9_put_7 : decode cX9_put 7 = .ok (.iload_n 2, 1) := by decide +kernel
theorem dX9_put_8 : decode cX9_put 8 = .ok (.iconst 1, 1) := by decide +kernel
theorem dX9_put_9 : decode cX9_put 9 = .ok (.invokevirtual 158, 3) := by decide +kernel
theorem dX9_put_12 : decode cX9_put 12 = .ok (.ifCond .ne 5, 3) := by decide +kernel
theorem dX9_put_15 : decode cX9_put 15 = .ok (.iconst 0, 1) := by decide +kernel
theorem dX9_put_16 : decode cX9_put 16 = .ok (.ireturn, 1) := by decide +kernel
theorem dX9_put_17 : decode cX9_put 17 = .ok (.bipush 16, 2) := by decide +kernel
theorem dX9_put_19 : decode cX9_put 19 = .ok (.iload_n 1, 1) := by decide +kernel
theorem dX9_put_20 : decode cX9_put 20 = .ok (.imul, 1) := by decide +kernel
theorem dX9_put_21 : decode cX9_put 21 = .ok (.iload_n 2, 1) := by decide +kernel
theorem dX9_put_22 : decode cX9_put 22 = .ok (.iadd, 1) := by decide +kernel
theorem dX9_put_23 : decode cX9_put 23 = .ok (.istore 6, 2) := by decide +kernel
theorem dX9_put_25 : decode cX9_put 25 = .ok (.aload_n 0, 1) := by decide +kernel
theorem dX9_put_26 : decode cX9_put 26 = .ok (.getfield 17, 3) := by decide +kernel
theorem dX9_put_29 : decode cX9_put 29 = .ok (.iload 6, 2) := by decide +kernel
theorem dX9_put_31 : decode cX9_put 31 = .ok (.iaload, 1) := by decide +kernel
theorem dX9_put_32 : decode cX9_put 32 = .ok (.iconst (-1), 1) := by decide +kernel
theorem dX9_put_33 : decode cX9_put 33 = .ok (.if_icmp .ne 5, 3) := by decide +kernel
theorem dX9_put_36 : decode cX9_put 36 = .ok (.iconst (-1), 1) := by decide +kernel
theorem dX9_put_37 : decode cX9_put 37 = .ok (.ireturn, 1) := by decide +kernel
theorem dX9_put_38 : decode cX9_put 38 = .ok (.iload_n 3, 1) := by decide +kernel
theorem dX9_put_39 : decode cX9_put 39 = .ok (.ifCond .lt 14, 3) := by decide +kernel
theorem dX9_put_42 : decode cX9_put 42 = .ok (.iload_n 3, 1) := by decide +kernel
theorem dX9_put_43 : decode cX9_put 43 = .ok (.aload_n 0, 1) := by decide +kernel
theorem dX9_put_44 : decode cX9_put 44 = .ok (.getfield 17, 3) := by decide +kernel
theorem dX9_put_47 : decode cX9_put 47 = .ok (.iload 6, 2) := by decide +kernel
theorem dX9_put_49 : decode cX9_put 49 = .ok (.iaload, 1) := by decide +kernel
theorem dX9_put_50 : decode cX9_put 50 = .ok (.if_icmp .lt 6, 3) := by decide +kernel
theorem dX9_put_53 : decode cX9_put 53 = .ok (.bipush (-2), 2) := by decide +kernel
theorem dX9_put_55 : decode cX9_put 55 = .ok (.ireturn, 1) := by decide +kernel
theorem dX9_put_56 : decode cX9_put 56 = .ok (.aload_n 0, 1) := by decide +kernel
theorem dX9_put_57 : decode cX9_put 57 = .ok (.getfield 20, 3) := by decide +kernel
theorem dX9_put_60 : decode cX9_put 60 = .ok (.bipush 12, 2) := by decide +kernel
theorem dX9_put_62 : decode cX9_put 62 = .ok (.iload 6, 2) := by decide +kernel
theorem dX9_put_64 : decode cX9_put 64 = .ok (.imul, 1) := by decide +kernel
theorem dX9_put_65 : decode cX9_put 65 = .ok (.iload_n 3, 1) := by decide +kernel
theorem dX9_put_66 : decode cX9_put 66 = .ok (.iadd, 1) := by decide +kernel
theorem dX9_put_67 : decode cX9_put 67 = .ok (.aload_n 0, 1) := by decide +kernel
theorem dX9_put_68 : decode cX9_put 68 = .ok (.getfield 13, 3) := by decide +kernel
theorem dX9_put_71 : decode cX9_put 71 = .ok (.iload_n 1, 1) := by decide +kernel
theorem dX9_put_72 : decode cX9_put 72 = .ok (.iaload, 1) := by decide +kernel
theorem dX9_put_73 : decode cX9_put 73 = .ok (.ifCond .ne 11, 3) := by decide +kernel
theorem dX9_put_76 : decode cX9_put 76 = .ok (.lload 4, 2) := by decide +kernel
theorem dX9_put_78 : decode cX9_put 78 = .ok (.l2i, 1) := by decide +kernel
theorem dX9_put_79 : decode cX9_put 79 = .ok (.i2s, 1) := by decide +kernel
theorem dX9_put_80 : decode cX9_put 80 = .ok (.i2l, 1) := by decide +kernel
theorem dX9_put_81 : decode cX9_put 81 = .ok (.goto 22, 3) := by decide +kernel
theorem dX9_put_84 : decode cX9_put 84 = .ok (.aload_n 0, 1) := by decide +kernel
theorem dX9_put_85 : decode cX9_put 85 = .ok (.getfield 13, 3) := by decide +kernel
theorem dX9_put_88 : decode cX9_put 88 = .ok (.iload_n 1, 1) := by decide +kernel
theorem dX9_put_89 : decode cX9_put 89 = .ok (.iaload, 1) := by decide +kernel
theorem dX9_put_90 : decode cX9_put 90 = .ok (.iconst 1, 1) := by decide +kernel
theorem dX9_put_91 : decode cX9_put 91 = .ok (.if_icmp .ne 10, 3) := by decide +kernel
theorem dX9_put_94 : decode cX9_put 94 = .ok (.lload 4, 2) := by decide +kernel
theorem dX9_put_96 : decode cX9_put 96 = .ok (.l2i, 1) := by decide +kernel
theorem dX9_put_97 : decode cX9_put 97 = .ok (.i2l, 1) := by decide +kernel
theorem dX9_put_98 : decode cX9_put 98 = .ok (.goto 5, 3) := by decide +kernel
theorem dX9_put_101 : decode cX9_put 101 = .ok (.lload 4, 2) := by decide +kernel
theorem dX9_put_103 : decode cX9_put 103 = .ok (.lastore, 1) := by decide +kernel
theorem dX9_put_104 : decode cX9_put 104 = .ok (.iconst 1, 1) := by decide +kernel
theorem dX9_put_105 : decode cX9_put 105 = .ok (.ireturn, 1) := by decide +kernel
theorem dX9_tear_0 : decode cX9_tear 0 = .ok (.aload_n 0, 1) := by decide +kernel
theorem dX9_tear_1 : decode cX9_tear 1 = .ok (.iconst 0, 1) := by decide +kernel
theorem dX9_tear_2 : decode cX9_tear 2 = .ok (.putfield 1, 3) := by decide +kernel
theorem dX9_tear_5 : decode cX9_tear 5 = .ok (.aload_n 0, 1) := by decide +kernel
theorem dX9_tear_6 : decode cX9_tear 6 = .ok (.iload_n 1, 1) := by decide +kernel
theorem dX9_tear_7 : decode cX9_tear 7 = .ok (.iload_n 2, 1) := by decide +kernel
theorem dX9_tear_8 : decode cX9_tear 8 = .ok (.iconst 1, 1) := by decide +kernel
theorem dX9_tear_9 : decode cX9_tear 9 = .ok (.invokevirtual 158, 3) := by decide +kernel
theorem dX9_tear_12 : decode cX9_tear 12 = .ok (.ifCond .ne 5, 3) := by decide +kernel
theorem dX9_tear_15 : decode cX9_tear 15 = .ok (.iconst 0, 1) := by decide +kernel
theorem dX9_tear_16 : decode cX9_tear 16 = .ok (.ireturn, 1) := by decide +kernel
theorem dX9_tear_17 : decode cX9_tear 17 = .ok (.bipush 16, 2) := by decide +kernel
theorem dX9_tear_19 : decode cX9_tear 19 = .ok (.iload_n 1, 1) := by decide +kernel
theorem dX9_tear_20 : decode cX9_tear 20 = .ok (.imul, 1) := by decide +kernel
theorem dX9_tear_21 : decode cX9_tear 21 = .ok (.iload_n 2, 1) := by decide +kernel
theorem dX9_tear_22 : decode cX9_tear 22 = .ok (.iadd, 1) := by decide +kernel
theorem dX9_tear_23 : decode cX9_tear 23 = .ok (.istore_n 3, 1) := by decide +kernel
theorem dX9_tear_24 : decode cX9_tear 24 = .ok (.aload_n 0, 1) := by decide +kernel
theorem dX9_tear_25 : decode cX9_tear 25 = .ok (.getfield 17, 3) := by decide +kernel
theorem dX9_tear_28 : decode cX9_tear 28 = .ok (.iload_n 3, 1) := by decide +kernel
theorem dX9_tear_29 : decode cX9_tear 29 = .ok (.iaload, 1) := by decide +kernel
theorem dX9_tear_30 : decode cX9_tear 30 = .ok (.iconst (-1), 1) := by decide +kernel
theorem dX9_tear_31 : decode cX9_tear 31 = .ok (.if_icmp .eq 7, 3) := by decide +kernel
theorem dX9_tear_34 : decode cX9_tear 34 = .ok (.iconst 1, 1) := by decide +kernel
theorem dX9_tear_35 : decode cX9_tear 35 = .ok (.goto 4, 3) := by decide +kernel
theorem dX9_tear_38 : decode cX9_tear 38 = .ok (.iconst 0, 1) := by decide +kernel
theorem dX9_tear_39 : decode cX9_tear 39 = .ok (.istore 4, 2) := by decide +kernel
theorem dX9_tear_41 : decode cX9_tear 41 = .ok (.aload_n 0, 1) := by decide +kernel
theorem dX9_tear_42 : decode cX9_tear 42 = .ok (.getfield 17, 3) := by decide +kernel
theorem dX9_tear_45 : decode cX9_tear 45 = .ok (.iload_n 3, 1) := by decide +kernel
theorem dX9_tear_46 : decode cX9_tear 46 = .ok (.iconst (-1), 1) := by decide +kernel
theorem dX9_tear_47 : decode cX9_tear 47 = .ok (.iastore, 1) := by decide +kernel
theorem dX9_tear_48 : decode cX9_tear 48 = .ok (.iload 4, 2) := by decide +kernel
theorem dX9_tear_50 : decode cX9_tear 50 = .ok (.ifCond .eq 7, 3) := by decide +kernel
theorem dX9_tear_53 : decode cX9_tear 53 = .ok (.iconst 1, 1) := by decide +kernel
theorem dX9_tear_54 : decode cX9_tear 54 = .ok (.goto 4, 3) := by decide +kernel
theorem dX9_tear_57 : decode cX9_tear 57 = .ok (.iconst 0, 1) := by decide +kernel
theorem dX9_tear_58 : decode cX9_tear 58 = .ok (.ireturn, 1) := by decide +kernel
theorem dX9_feed_0 : decode cX9_feed 0 = .ok (.aload_n 0, 1) := by decide +kernel
theorem dX9_feed_1 : decode cX9_feed 1 = .ok (.iconst 0, 1) := by decide +kernel
theorem dX9_feed_2 : decode cX9_feed 2 = .ok (.putfield 1, 3) := by decide +kernel
theorem dX9_feed_5 : decode cX9_feed 5 = .ok (.aload_n 0, 1) := by decide +kernel
theorem dX9_feed_6 : decode cX9_feed 6 = .ok (.getfield 162, 3) := by decide +kernel
theorem dX9_feed_9 : decode cX9_feed 9 = .ok (.bipush 20, 2) := by decide +kernel
theorem dX9_feed_11 : decode cX9_feed 11 = .ok (.iadd, 1) := by decide +kernel
theorem dX9_feed_12 : decode cX9_feed 12 = .ok (.bipush 100, 2) := by decide +kernel
theorem dX9_feed_14 : decode cX9_feed 14 = .ok (.if_icmp .le 5, 3) := by decide +kernel
theorem dX9_feed_17 : decode cX9_feed 17 = .ok (.iconst (-1), 1) := by decide +kernel
theorem dX9_feed_18 : decode cX9_feed 18 = .ok (.ireturn, 1) := by decide +kernel
theorem dX9_feed_19 : decode cX9_feed 19 = .ok (.iconst 0, 1) := by decide +kernel
theorem dX9_feed_20 : decode cX9_feed 20 = .ok (.istore 6, 2) := by decide +kernel
theorem dX9_feed_22 : decode cX9_feed 22 = .ok (.iload 6, 2) := by decide +kernel
theorem dX9_feed_24 : decode cX9_feed 24 = .ok (.bipush 20, 2) := by decide +kernel
theorem dX9_feed_26 : decode cX9_feed 26 = .ok (.if_icmp .ge 93, 3) := by decide +kernel
theorem dX9_feed_29 : decode cX9_feed 29 = .ok (.iload 6, 2) := by decide +kernel
theorem dX9_feed_31 : decode cX9_feed 31 = .ok (.iconst 4, 1) := by decide +kernel
theorem dX9_feed_32 : decode cX9_feed 32 = .ok (.if_icmp .ge 7, 3) := by decide +kernel
theorem dX9_feed_35 : decode cX9_feed 35 = .ok (.iload_n 1, 1) := by decide +kernel
theorem dX9_feed_36 : decode cX9_feed 36 = .ok (.goto 39, 3) := by decide +kernel
theorem dX9_feed_39 : decode cX9_feed 39 = .ok (.iload 6, 2) := by decide +kernel
theorem dX9_feed_41 : decode cX9_feed 41 = .ok (.bipush 8, 2) := by decide +kernel
theorem dX9_feed_43 : decode cX9_feed 43 = .ok (.if_icmp .ge 7, 3) := by decide +kernel
theorem dX9_feed_46 : decode cX9_feed 46 = .ok (.iload_n 2, 1) := by decide +kernel
theorem dX9_feed_47 : decode cX9_feed 47 = .ok (.goto 28, 3) := by decide +kernel
theorem dX9_feed_50 : decode cX9_feed 50 = .ok (.iload 6, 2) := by decide +kernel
theorem dX9_feed_52 : decode cX9_feed 52 = .ok (.bipush 12, 2) := by decide +kernel
theorem dX9_feed_54 : decode cX9_feed 54 = .ok (.if_icmp .ge 7, 3) := by decide +kernel
theorem dX9_feed_57 : decode cX9_feed 57 = .ok (.iload_n 3, 1) := by decide +kernel
theorem dX9_feed_58 : decode cX9_feed 58 = .ok (.goto 17, 3) := by decide +kernel
theorem dX9_feed_61 : decode cX9_feed 61 = .ok (.iload 6, 2) := by decide +kernel
theorem dX9_feed_63 : decode cX9_feed 63 = .ok (.bipush 16, 2) := by decide +kernel
theorem dX9_feed_65 : decode cX9_feed 65 = .ok (.if_icmp .ge 8, 3) := by decide +kernel
theorem dX9_feed_68 : decode cX9_feed 68 = .ok (.iload 4, 2) := by decide +kernel
theorem dX9_feed_70 : decode cX9_feed 70 = .ok (.goto 5, 3) := by decide +kernel
theorem dX9_feed_73 : decode cX9_feed 73 = .ok (.iload 5, 2) := by decide +kernel
theorem dX9_feed_75 : decode cX9_feed 75 = .ok (.istore 7, 2) := by decide +kernel
theorem dX9_feed_77 : decode cX9_feed 77 = .ok (.aload_n 0, 1) := by decide +kernel
theorem dX9_feed_78 : decode cX9_feed 78 = .ok (.getfield 24, 3) := by decide +kernel
theorem dX9_feed_81 : decode cX9_feed 81 = .ok (.aload_n 0, 1) := by decide +kernel
theorem dX9_feed_82 : decode cX9_feed 82 = .ok (.getfield 162, 3) := by decide +kernel
theorem dX9_feed_85 : decode cX9_feed 85 = .ok (.iload 7, 2) := by decide +kernel
theorem dX9_feed_87 : decode cX9_feed 87 = .ok (.bipush 24, 2) := by decide +kernel
theorem dX9_feed_89 : decode cX9_feed 89 = .ok (.bipush 8, 2) := by decide +kernel
theorem dX9_feed_91 : decode cX9_feed 91 = .ok (.iload 6, 2) := by decide +kernel
theorem dX9_feed_93 : decode cX9_feed 93 = .ok (.iconst 4, 1) := by decide +kernel
theorem dX9_feed_94 : decode cX9_feed 94 = .ok (.irem, 1) := by decide +kernel
theorem dX9_feed_95 : decode cX9_feed 95 = .ok (.imul, 1) := by decide +kernel
theorem dX9_feed_96 : decode cX9_feed 96 = .ok (.isub, 1) := by decide +kernel
theorem dX9_feed_97 : decode cX9_feed 97 = .ok (.ishr, 1) := by decide +kernel
theorem dX9_feed_98 : decode cX9_feed 98 = .ok (.sipush 255, 3) := by decide +kernel
theorem dX9_feed_101 : decode cX9_feed 101 = .ok (.iand, 1) := by decide +kernel
theorem dX9_feed_102 : decode cX9_feed 102 = .ok (.iastore, 1) := by decide +kernel
theorem dX9_feed_103 : decode cX9_feed 103 = .ok (.aload_n 0, 1) := by decide +kernel
theorem dX9_feed_104 : decode cX9_feed 104 = .ok (.dup, 1) := by decide +kernel
theorem dX9_feed_105 : decode cX9_feed 105 = .ok (.getfield 162, 3) := by decide +kernel
theorem dX9_feed_108 : decode cX9_feed 108 = .ok (.iconst 1, 1) := by decide +kernel
theorem dX9_feed_109 : decode cX9_feed 109 = .ok (.iadd, 1) := by decide +kernel
theorem dX9_feed_110 : decode cX9_feed 110 = .ok (.putfield 162, 3) := by decide +kernel
theorem dX9_feed_113 : decode cX9_feed 113 = .ok (.iinc 6 1, 3) := by decide +kernel
theorem dX9_feed_116 : decode cX9_feed 116 = .ok (.goto (-94), 3) := by decide +kernel
theorem dX9_feed_119 : decode cX9_feed 119 = .ok (.aload_n 0, 1) := by decide +kernel
theorem dX9_feed_120 : decode cX9_feed 120 = .ok (.getfield 162, 3) := by decide +kernel
theorem dX9_feed_123 : decode cX9_feed 123 = .ok (.ireturn, 1) := by decide +kernel
theorem dX9_here_0 : decode cX9_here 0 = .ok (.aload_n 0, 1) := by decide +kernel
theorem dX9_here_1 : decode cX9_here 1 = .ok (.getfield 165, 3) := by decide +kernel
theorem dX9_here_4 : decode cX9_here 4 = .ok (.aload_n 0, 1) := by decide +kernel
theorem dX9_here_5 : decode cX9_here 5 = .ok (.getfield 168, 3) := by decide +kernel
theorem dX9_here_8 : decode cX9_here 8 = .ok (.if_icmp .ge 30, 3) := by decide +kernel
theorem dX9_here_11 : decode cX9_here 11 = .ok (.aload_n 0, 1) := by decide +kernel
theorem dX9_here_12 : decode cX9_here 12 = .ok (.getfield 24, 3) := by decide +kernel
theorem dX9_here_15 : decode cX9_here 15 = .ok (.aload_n 0, 1) := by decide +kernel
theorem dX9_here_16 : decode cX9_here 16 = .ok (.getfield 165, 3) := by decide +kernel
theorem dX9_here_19 : decode cX9_here 19 = .ok (.iaload, 1) := by decide +kernel
theorem dX9_here_20 : decode cX9_here 20 = .ok (.bipush 32, 2) := by decide +kernel
theorem dX9_here_22 : decode cX9_here 22 = .ok (.if_icmp .ne 16, 3) := by decide +kernel
theorem dX9_here_25 : decode cX9_here 25 = .ok (.aload_n 0, 1) := by decide +kernel
theorem dX9_here_26 : decode cX9_here 26 = .ok (.dup, 1) := by decide +kernel
theorem dX9_here_27 : decode cX9_here 27 = .ok (.getfield 165, 3) := by decide +kernel
theorem dX9_here_30 : decode cX9_here 30 = .ok (.iconst 1, 1) := by decide +kernel
theorem dX9_here_31 : decode cX9_here 31 = .ok (.iadd, 1) := by decide +kernel
theorem dX9_here_32 : decode cX9_here 32 = .ok (.putfield 165, 3) := by decide +kernel
theorem dX9_here_35 : decode cX9_here 35 = .ok (.goto (-35), 3) := by decide +kernel
theorem dX9_here_38 : decode cX9_here 38 = .ok (.aload_n 0, 1) := by decide +kernel
theorem dX9_here_39 : decode cX9_here 39 = .ok (.getfield 165, 3) := by decide +kernel
theorem dX9_here_42 : decode cX9_here 42 = .ok (.aload_n 0, 1) := by decide +kernel
theorem dX9_here_43 : decode cX9_here 43 = .ok (.getfield 168, 3) := by decide +kernel
theorem dX9_here_46 : decode cX9_here 46 = .ok (.if_icmp .ge 15, 3) := by decide +kernel
theorem dX9_here_49 : decode cX9_here 49 = .ok (.aload_n 0, 1) := by decide +kernel
theorem dX9_here_50 : decode cX9_here 50 = .ok (.getfield 24, 3) := by decide +kernel
theorem dX9_here_53 : decode cX9_here 53 = .ok (.aload_n 0, 1) := by decide +kernel
theorem dX9_here_54 : decode cX9_here 54 = .ok (.getfield 165, 3) := by decide +kernel
theorem dX9_here_57 : decode cX9_here 57 = .ok (.iaload, 1) := by decide +kernel
theorem dX9_here_58 : decode cX9_here 58 = .ok (.goto 4, 3) := by decide +kernel
theorem dX9_here_61 : decode cX9_here 61 = .ok (.iconst 0, 1) := by decide +kernel
theorem dX9_here_62 : decode cX9_here 62 = .ok (.ireturn, 1) := by decide +kernel
theorem dX9_wrong_0 : decode cX9_wrong 0 = .ok (.aload_n 0, 1) := by decide +kernel
theorem dX9_wrong_1 : decode cX9_wrong 1 = .ok (.getfield 171, 3) := by decide +kernel
theorem dX9_wrong_4 : decode cX9_wrong 4 = .ok (.iconst (-1), 1) := by decide +kernel
theorem dX9_wrong_5 : decode cX9_wrong 5 = .ok (.if_icmp .ne 11, 3) := by decide +kernel
theorem dX9_wrong_8 : decode cX9_wrong 8 = .ok (.aload_n 0, 1) := by decide +kernel
theorem dX9_wrong_9 : decode cX9_wrong 9 = .ok (.aload_n 0, 1) := by decide +kernel
theorem dX9_wrong_10 : decode cX9_wrong 10 = .ok (.getfield 165, 3) := by decide +kernel
theorem dX9_wrong_13 : decode cX9_wrong 13 = .ok (.putfield 171, 3) := by decide +kernel
theorem dX9_wrong_16 : decode cX9_wrong 16 = .ok (.return_, 1) := by decide +kernel
theorem dX9_fine_0 : decode cX9_fine 0 = .ok (.aload_n 0, 1) := by decide +kernel
theorem dX9_fine_1 : decode cX9_fine 1 = .ok (.getfield 171, 3) := by decide +kernel
theorem dX9_fine_4 : decode cX9_fine 4 = .ok (.iconst (-1), 1) := by decide +kernel
theorem dX9_fine_5 : decode cX9_fine 5 = .ok (.if_icmp .ne 7, 3) := by decide +kernel
theorem dX9_fine_8 : decode cX9_fine 8 = .ok (.iconst 1, 1) := by decide +kernel
theorem dX9_fine_9 : decode cX9_fine 9 = .ok (.goto 4, 3) := by decide +kernel
theorem dX9_fine_12 : decode cX9_fine 12 = .ok (.iconst 0, 1) := by decide +kernel
theorem dX9_fine_13 : decode cX9_fine 13 = .ok (.ireturn, 1) := by decide +kernel
theorem dX9_emit_0 : decode cX9_emit 0 = .ok (.bipush 100, 2) := by decide +kernel
theorem dX9_emit_2 : decode cX9_emit 2 = .ok (.aload_n 0, 1) := by decide +kernel
theorem dX9_emit_3 : decode cX9_emit 3 = .ok (.getfield 174, 3) := by decide +kernel
theorem dX9_emit_6 : decode cX9_emit 6 = .ok (.imul, 1) := by decide +kernel
theorem dX9_emit_7 : decode cX9_emit 7 = .ok (.aload_n 0, 1) := by decide +kernel
theorem dX9_emit_8 : decode cX9_emit 8 = .ok (.getfield 27, 3) := by decide +kernel
theorem dX9_emit_11 : decode cX9_emit 11 = .ok (.aload_n 0, 1) := by decide +kernel
theorem dX9_emit_12 : decode cX9_emit 12 = .ok (.getfield 174, 3) := by decide +kernel
theorem dX9_emit_15 : decode cX9_emit 15 = .ok (.iaload, 1) := by decide +kernel
theorem dX9_emit_16 : decode cX9_emit 16 = .ok (.iadd, 1) := by decide +kernel
theorem dX9_emit_17 : decode cX9_emit 17 = .ok (.istore 4, 2) := by decide +kernel
theorem dX9_emit_19 : decode cX9_emit 19 = .ok (.aload_n 0, 1) := by decide +kernel
theorem dX9_emit_20 : decode cX9_emit 20 = .ok (.getfield 30, 3) := by decide +kernel
theorem dX9_emit_23 : decode cX9_emit 23 = .ok (.iload 4, 2) := by decide +kernel
theorem dX9_emit_25 : decode cX9_emit 25 = .ok (.iload_n 1, 1) := by decide +kernel
theorem dX9_emit_26 : decode cX9_emit 26 = .ok (.iastore, 1) := by decide +kernel
theorem dX9_emit_27 : decode cX9_emit 27 = .ok (.aload_n 0, 1) := by decide +kernel
theorem dX9_emit_28 : decode cX9_emit 28 = .ok (.getfield 33, 3) := by decide +kernel
theorem dX9_emit_31 : decode cX9_emit 31 = .ok (.iload 4, 2) := by decide +kernel
theorem dX9_emit_33 : decode cX9_emit 33 = .ok (.iload_n 2, 1) := by decide +kernel
theorem dX9_emit_34 : decode cX9_emit 34 = .ok (.iastore, 1) := by decide +kernel
theorem dX9_emit_35 : decode cX9_emit 35 = .ok (.aload_n 0, 1) := by decide +kernel
theorem dX9_emit_36 : decode cX9_emit 36 = .ok (.getfield 36, 3) := by decide +kernel
theorem dX9_emit_39 : decode cX9_emit 39 = .ok (.iload 4, 2) := by decide +kernel
theorem dX9_emit_41 : decode cX9_emit 41 = .ok (.iload_n 3, 1) := by decide +kernel
theorem dX9_emit_42 : decode cX9_emit 42 = .ok (.iastore, 1) := by decide +kernel
theorem dX9_emit_43 : decode cX9_emit 43 = .ok (.aload_n 0, 1) := by decide +kernel
theorem dX9_emit_44 : decode cX9_emit 44 = .ok (.getfield 27, 3) := by decide +kernel
theorem dX9_emit_47 : decode cX9_emit 47 = .ok (.aload_n 0, 1) := by decide +kernel
theorem dX9_emit_48 : decode cX9_emit 48 = .ok (.getfield 174, 3) := by decide +kernel
theorem dX9_emit_51 : decode cX9_emit 51 = .ok (.dup2, 1) := by decide +kernel
theorem dX9_emit_52 : decode cX9_emit 52 = .ok (.iaload, 1) := by decide +kernel
theorem dX9_emit_53 : decode cX9_emit 53 = .ok (.iconst 1, 1) := by decide +kernel
theorem dX9_emit_54 : decode cX9_emit 54 = .ok (.iadd, 1) := by decide +kernel
theorem dX9_emit_55 : decode cX9_emit 55 = .ok (.iastore, 1) := by decide +kernel
theorem dX9_emit_56 : decode cX9_emit 56 = .ok (.return_, 1) := by decide +kernel
theorem dX9_isDigit_0 : decode cX9_isDigit 0 = .ok (.iload_n 0, 1) := by decide +kernel
theorem dX9_isDigit_1 : decode cX9_isDigit 1 = .ok (.bipush 48, 2) := by decide +kernel
theorem dX9_isDigit_3 : decode cX9_isDigit 3 = .ok (.if_icmp .lt 13, 3) := by decide +kernel
theorem dX9_isDigit_6 : decode cX9_isDigit 6 = .ok (.iload_n 0, 1) := by decide +kernel
theorem dX9_isDigit_7 : decode cX9_isDigit 7 = .ok (.bipush 57, 2) := by decide +kernel
theorem dX9_isDigit_9 : decode cX9_isDigit 9 = .ok (.if_icmp .gt 7, 3) := by decide +kernel
theorem dX9_isDigit_12 : decode cX9_isDigit 12 = .ok (.iconst 1, 1) := by decide +kernel
theorem dX9_isDigit_13 : decode cX9_isDigit 13 = .ok (.goto 4, 3) := by decide +kernel
theorem dX9_isDigit_16 : decode cX9_isDigit 16 = .ok (.iconst 0, 1) := by decide +kernel
theorem dX9_isDigit_17 : decode cX9_isDigit 17 = .ok (.ireturn, 1) := by decide +kernel
theorem dX9_digits_0 : decode cX9_digits 0 = .ok (.iconst 0, 1) := by decide +kernel
theorem dX9_digits_1 : decode cX9_digits 1 = .ok (.istore_n 1, 1) := by decide +kernel
theorem dX9_digits_2 : decode cX9_digits 2 = .ok (.iconst 0, 1) := by decide +kernel
theorem dX9_digits_3 : decode cX9_digits 3 = .ok (.istore_n 2, 1) := by decide +kernel
theorem dX9_digits_4 : decode cX9_digits 4 = .ok (.aload_n 0, 1) := by decide +kernel
theorem dX9_digits_5 : decode cX9_digits 5 = .ok (.invokevirtual 177, 3) := by decide +kernel
theorem dX9_digits_8 : decode cX9_digits 8 = .ok (.invokestatic 181, 3) := by decide +kernel
theorem dX9_digits_11 : decode cX9_digits 11 = .ok (.ifCond .ne 7, 3) := by decide +kernel
theorem dX9_digits_14 : decode cX9_digits 14 = .ok (.aload_n 0, 1) := by decide +kernel
theorem dX9_digits_15 : decode cX9_digits 15 = .ok (.invokevirtual 185, 3) := by decide +kernel
theorem dX9_digits_18 : decode cX9_digits 18 = .ok (.aload_n 0, 1) := by decide +kernel
theorem dX9_digits_19 : decode cX9_digits 19 = .ok (.invokevirtual 188, 3) := by decide +kernel
theorem dX9_digits_22 : decode cX9_digits 22 = .ok (.ifCond .eq 75, 3) := by decide +kernel
theorem dX9_digits_25 : decode cX9_digits 25 = .ok (.aload_n 0, 1) := by decide +kernel
theorem dX9_digits_26 : decode cX9_digits 26 = .ok (.getfield 165, 3) := by decide +kernel
theorem dX9_digits_29 : decode cX9_digits 29 = .ok (.aload_n 0, 1) := by decide +kernel
theorem dX9_digits_30 : decode cX9_digits 30 = .ok (.getfield 168, 3) := by decide +kernel
theorem dX9_digits_33 : decode cX9_digits 33 = .ok (.if_icmp .ge 64, 3) := by decide +kernel
theorem dX9_digits_36 : decode cX9_digits 36 = .ok (.aload_n 0, 1) := by decide +kernel
theorem dX9_digits_37 : decode cX9_digits 37 = .ok (.getfield 24, 3) := by decide +kernel
theorem dX9_digits_40 : decode cX9_digits 40 = .ok (.aload_n 0, 1) := by decide +kernel
theorem dX9_digits_41 : decode cX9_digits 41 = .ok (.getfield 165, 3) := by decide +kernel
theorem dX9_digits_44 : decode cX9_digits 44 = .ok (.iaload, 1) := by decide +kernel
theorem dX9_digits_45 : decode cX9_digits 45 = .ok (.invokestatic 181, 3) := by decide +kernel
theorem dX9_digits_48 : decode cX9_digits 48 = .ok (.ifCond .eq 49, 3) := by decide +kernel
theorem dX9_digits_51 : decode cX9_digits 51 = .ok (.iload_n 2, 1) := by decide +kernel
theorem dX9_digits_52 : decode cX9_digits 52 = .ok (.iconst 4, 1) := by decide +kernel
theorem dX9_digits_53 : decode cX9_digits 53 = .ok (.if_icmp .ne 10, 3) := by decide +kernel
theorem dX9_digits_56 : decode cX9_digits 56 = .ok (.aload_n 0, 1) := by decide +kernel
theorem dX9_digits_57 : decode cX9_digits 57 = .ok (.invokevirtual 185, 3) := by decide +kernel
theorem dX9_digits_60 : decode cX9_digits 60 = .ok (.goto (-42), 3) := by decide +kernel
theorem dX9_digits_63 : decode cX9_digits 63 = .ok (.bipush 10, 2) := by decide +kernel
theorem dX9_digits_65 : decode cX9_digits 65 = .ok (.iload_n 1, 1) := by decide +kernel
theorem dX9_digits_66 : decode cX9_digits 66 = .ok (.imul, 1) := by decide +kernel
theorem dX9_digits_67 : decode cX9_digits 67 = .ok (.aload_n 0, 1) := by decide +kernel
theorem dX9_digits_68 : decode cX9_digits 68 = .ok (.getfield 24, 3) := by decide +kernel
theorem dX9_digits_71 : decode cX9_digits 71 = .ok (.aload_n 0, 1) := by decide +kernel
theorem dX9_digits_72 : decode cX9_digits 72 = .ok (.getfield 165, 3) := by decide +kernel
theorem dX9_digits_75 : decode cX9_digits 75 = .ok (.iaload, 1) := by decide +kernel
theorem dX9_digits_76 : decode cX9_digits 76 = .ok (.iadd, 1) := by decide +kernel
theorem dX9_digits_77 : decode cX9_digits 77 = .ok (.bipush 48, 2) := by decide +kernel
theorem dX9_digits_79 : decode cX9_digits 79 = .ok (.isub, 1) := by decide +kernel
theorem dX9_digits_80 : decode cX9_digits 80 = .ok (.istore_n 1, 1) := by decide +kernel
theorem dX9_digits_81 : decode cX9_digits 81 = .ok (.iinc 2 1, 3) := by decide +kernel
theorem dX9_digits_84 : decode cX9_digits 84 = .ok (.aload_n 0, 1) := by decide +kernel
theorem dX9_digits_85 : decode cX9_digits 85 = .ok (.dup, 1) := by decide +kernel
theorem dX9_digits_86 : decode cX9_digits 86 = .ok (.getfield 165, 3) := by decide +kernel
theorem dX9_digits_89 : decode cX9_digits 89 = .ok (.iconst 1, 1) := by decide +kernel
theorem dX9_digits_90 : decode cX9_digits 90 = .ok (.iadd, 1) := by decide +kernel
theorem dX9_digits_91 : decode cX9_digits 91 = .ok (.putfield 165, 3) := by decide +kernel
theorem dX9_digits_94 : decode cX9_digits 94 = .ok (.goto (-76), 3) := by decide +kernel
theorem dX9_digits_97 : decode cX9_digits 97 = .ok (.iload_n 1, 1) := by decide +kernel
theorem dX9_digits_98 : decode cX9_digits 98 = .ok (.ireturn, 1) := by decide +kernel
theorem dX9_operand_0 : decode cX9_operand 0 = .ok (.aload_n 0, 1) := by decide +kernel
theorem dX9_operand_1 : decode cX9_operand 1 = .ok (.invokevirtual 177, 3) := by decide +kernel
theorem dX9_operand_4 : decode cX9_operand 4 = .ok (.istore_n 1, 1) := by decide +kernel
theorem dX9_operand_5 : decode cX9_operand 5 = .ok (.iload_n 1, 1) := by decide +kernel
theorem dX9_operand_6 : decode cX9_operand 6 = .ok (.bipush 33, 2) := by decide +kernel
theorem dX9_operand_8 : decode cX9_operand 8 = .ok (.if_icmp .eq 9, 3) := by decide +kernel
theorem dX9_operand_11 : decode cX9_operand 11 = .ok (.iload_n 1, 1) := by decide +kernel
theorem dX9_operand_12 : decode cX9_operand 12 = .ok (.bipush 40, 2) := by decide +kernel
theorem dX9_operand_14 : decode cX9_operand 14 = .ok (.if_icmp .ne 71, 3) := by decide +kernel
theorem dX9_operand_17 : decode cX9_operand 17 = .ok (.aload_n 0, 1) := by decide +kernel
theorem dX9_operand_18 : decode cX9_operand 18 = .ok (.getfield 192, 3) := by decide +kernel
theorem dX9_operand_21 : decode cX9_operand 21 = .ok (.bipush 20, 2) := by decide +kernel
theorem dX9_operand_23 : decode cX9_operand 23 = .ok (.if_icmp .ne 9, 3) := by decide +kernel
theorem dX9_operand_26 : decode cX9_operand 26 = .ok (.aload_n 0, 1) := by decide +kernel
theorem dX9_operand_27 : decode cX9_operand 27 = .ok (.invokevirtual 185, 3) := by decide +kernel
theorem dX9_operand_30 : decode cX9_operand 30 = .ok (.iconst 0, 1) := by decide +kernel
theorem dX9_operand_31 : decode cX9_operand 31 = .ok (.ireturn, 1) := by decide +kernel
theorem dX9_operand_32 : decode cX9_operand 32 = .ok (.aload_n 0, 1) := by decide +kernel
theorem dX9_operand_33 : decode cX9_operand 33 = .ok (.dup, 1) := by decide +kernel
theorem dX9_operand_34 : decode cX9_operand 34 = .ok (.getfield 192, 3) := by decide +kernel
theorem dX9_operand_37 : decode cX9_operand 37 = .ok (.iconst 1, 1) := by decide +kernel
theorem dX9_operand_38 : decode cX9_operand 38 = .ok (.iadd, 1) := by decide +kernel
theorem dX9_operand_39 : decode cX9_operand 39 = .ok (.putfield 192, 3) := by decide +kernel
theorem dX9_operand_42 : decode cX9_operand 42 = .ok (.aload_n 0, 1) := by decide +kernel
theorem dX9_operand_43 : decode cX9_operand 43 = .ok (.getfield 39, 3) := by decide +kernel
theorem dX9_operand_46 : decode cX9_operand 46 = .ok (.aload_n 0, 1) := by decide +kernel
theorem dX9_operand_47 : decode cX9_operand 47 = .ok (.getfield 195, 3) := by decide +kernel
theorem dX9_operand_50 : decode cX9_operand 50 = .ok (.iload_n 1, 1) := by decide +kernel
theorem dX9_operand_51 : decode cX9_operand 51 = .ok (.bipush 33, 2) := by decide +kernel
theorem dX9_operand_53 : decode cX9_operand 53 = .ok (.if_icmp .ne 7, 3) := by decide +kernel
theorem dX9_operand_56 : decode cX9_operand 56 = .ok (.iconst 3, 1) := by decide +kernel
theorem dX9_operand_57 : decode cX9_operand 57 = .ok (.goto 5, 3) := by decide +kernel
theorem dX9_operand_60 : decode cX9_operand 60 = .ok (.bipush 6, 2) := by decide +kernel
theorem dX9_operand_62 : decode cX9_operand 62 = .ok (.iastore, 1) := by decide +kernel
theorem dX9_operand_63 : decode cX9_operand 63 = .ok (.aload_n 0, 1) := by decide +kernel
theorem dX9_operand_64 : decode cX9_operand 64 = .ok (.dup, 1) := by decide +kernel
theorem dX9_operand_65 : decode cX9_operand 65 = .ok (.getfield 195, 3) := by decide +kernel
theorem dX9_operand_68 : decode cX9_operand 68 = .ok (.iconst 1, 1) := by decide +kernel
theorem dX9_operand_69 : decode cX9_operand 69 = .ok (.iadd, 1) := by decide +kernel
theorem dX9_operand_70 : decode cX9_operand 70 = .ok (.putfield 195, 3) := by decide +kernel
theorem dX9_operand_73 : decode cX9_operand 73 = .ok (.aload_n 0, 1) := by decide +kernel
theorem dX9_operand_74 : decode cX9_operand 74 = .ok (.dup, 1) := by decide +kernel
theorem dX9_operand_75 : decode cX9_operand 75 = .ok (.getfield 165, 3) := by decide +kernel
theorem dX9_operand_78 : decode cX9_operand 78 = .ok (.iconst 1, 1) := by decide +kernel
theorem dX9_operand_79 : decode cX9_operand 79 = .ok (.iadd, 1) := by decide +kernel
theorem dX9_operand_80 : decode cX9_operand 80 = .ok (.putfield 165, 3) := by decide +kernel
theorem dX9_operand_83 : decode cX9_operand 83 = .ok (.iconst 0, 1) := by decide +kernel
theorem dX9_operand_84 : decode cX9_operand 84 = .ok (.ireturn, 1) := by decide +kernel
theorem dX9_operand_85 : decode cX9_operand 85 = .ok (.iload_n 1, 1) := by decide +kernel
theorem dX9_operand_86 : decode cX9_operand 86 = .ok (.bipush 77, 2) := by decide +kernel
theorem dX9_operand_88 : decode cX9_operand 88 = .ok (.if_icmp .ne 35, 3) := by decide +kernel
theorem dX9_operand_91 : decode cX9_operand 91 = .ok (.aload_n 0, 1) := by decide +kernel
theorem dX9_operand_92 : decode cX9_operand 92 = .ok (.dup, 1) := by decide +kernel
theorem dX9_operand_93 : decode cX9_operand 93 = .ok (.getfield 165, 3) := by decide +kernel
theorem dX9_operand_96 : decode cX9_operand 96 = .ok (.iconst 1, 1) := by decide +kernel
theorem dX9_operand_97 : decode cX9_operand 97 = .ok (.iadd, 1) := by decide +kernel
theorem dX9_operand_98 : decode cX9_operand 98 = .ok (.putfield 165, 3) := by decide +kernel
theorem dX9_operand_101 : decode cX9_operand 101 = .ok (.aload_n 0, 1) := by decide +kernel
theorem dX9_operand_102 : decode cX9_operand 102 = .ok (.invokevirtual 198, 3) := by decide +kernel
theorem dX9_operand_105 : decode cX9_operand 105 = .ok (.istore_n 2, 1) := by decide +kernel
theorem dX9_operand_106 : decode cX9_operand 106 = .ok (.aload_n 0, 1) := by decide +kernel
theorem dX9_operand_107 : decode cX9_operand 107 = .ok (.invokevirtual 188, 3) := by decide +kernel
theorem dX9_operand_110 : decode cX9_operand 110 = .ok (.ifCond .eq 10, 3) := by decide +kernel
theorem dX9_operand_113 : decode cX9_operand 113 = .ok (.aload_n 0, 1) := by decide +kernel
theorem dX9_operand_114 : decode cX9_operand 114 = .ok (.iconst 0, 1) := by decide +kernel
theorem dX9_operand_115 : decode cX9_operand 115 = .ok (.iload_n 2, 1) := by decide +kernel
theorem dX9_operand_116 : decode cX9_operand 116 = .ok (.iconst 0, 1) := by decide +kernel
theorem dX9_operand_117 : decode cX9_operand 117 = .ok (.invokevirtual 201, 3) := by decide +kernel
theorem dX9_operand_120 : decode cX9_operand 120 = .ok (.goto 165, 3) := by decide +kernel
theorem dX9_operand_123 : decode cX9_operand 123 = .ok (.iload_n 1, 1) := by decide +kernel
theorem dX9_operand_124 : decode cX9_operand 124 = .ok (.bipush 89, 2) := by decide +kernel
theorem dX9_operand_126 : decode cX9_operand 126 = .ok (.if_icmp .ne 88, 3) := by decide +kernel
theorem dX9_operand_129 : decode cX9_operand 129 = .ok (.aload_n 0, 1) := by decide +kernel
theorem dX9_operand_130 : decode cX9_operand 130 = .ok (.dup, 1) := by decide +kernel
theorem dX9_operand_131 : decode cX9_operand 131 = .ok (.getfield 165, 3) := by decide +kernel
theorem dX9_operand_134 : decode cX9_operand 134 = .ok (.iconst 1, 1) := by decide +kernel
theorem dX9_operand_135 : decode cX9_operand 135 = .ok (.iadd, 1) := by decide +kernel
theorem dX9_operand_136 : decode cX9_operand 136 = .ok (.putfield 165, 3) := by decide +kernel
theorem dX9_operand_139 : decode cX9_operand 139 = .ok (.aload_n 0, 1) := by decide +kernel
theorem dX9_operand_140 : decode cX9_operand 140 = .ok (.invokevirtual 198, 3) := by decide +kernel
theorem dX9_operand_143 : decode cX9_operand 143 = .ok (.istore_n 2, 1) := by decide +kernel
theorem dX9_operand_144 : decode cX9_operand 144 = .ok (.aload_n 0, 1) := by decide +kernel
theorem dX9_operand_145 : decode cX9_operand 145 = .ok (.invokevirtual 188, 3) := by decide +kernel
theorem dX9_operand_148 : decode cX9_operand 148 = .ok (.ifCond .eq 16, 3) := by decide +kernel
theorem dX9_operand_151 : decode cX9_operand 151 = .ok (.aload_n 0, 1) := by decide +kernel
theorem dX9_operand_152 : decode cX9_operand 152 = .ok (.invokevirtual 177, 3) := by decide +kernel
theorem dX9_operand_155 : decode cX9_operand 155 = .ok (.bipush 45, 2) := by decide +kernel
theorem dX9_operand_157 : decode cX9_operand 157 = .ok (.if_icmp .eq 7, 3) := by decide +kernel
theorem dX9_operand_160 : decode cX9_operand 160 = .ok (.aload_n 0, 1) := by decide +kernel
theorem dX9_operand_161 : decode cX9_operand 161 = .ok (.invokevirtual 185, 3) := by decide +kernel
theorem dX9_operand_164 : decode cX9_operand 164 = .ok (.aload_n 0, 1) := by decide +kernel
theorem dX9_operand_165 : decode cX9_operand 165 = .ok (.invokevirtual 188, 3) := by decide +kernel
theorem dX9_operand_168 : decode cX9_operand 168 = .ok (.ifCond .eq 13, 3) := by decide +kernel
theorem dX9_operand_171 : decode cX9_operand 171 = .ok (.aload_n 0, 1) := by decide +kernel
theorem dX9_operand_172 : decode cX9_operand 172 = .ok (.dup, 1) := by decide +kernel
theorem dX9_operand_173 : decode cX9_operand 173 = .ok (.getfield 165, 3) := by decide +kernel
theorem dX9_operand_176 : decode cX9_operand 176 = .ok (.iconst 1, 1) := by decide +kernel
theorem dX9_operand_177 : decode cX9_operand 177 = .ok (.iadd, 1) := by decide +kernel
theorem dX9_operand_178 : decode cX9_operand 178 = .ok (.putfield 165, 3) := by decide +kernel
theorem dX9_operand_181 : decode cX9_operand 181 = .ok (.aload_n 0, 1) := by decide +kernel
theorem dX9_operand_182 : decode cX9_operand 182 = .ok (.invokevirtual 188, 3) := by decide +kernel
theorem dX9_operand_185 : decode cX9_operand 185 = .ok (.ifCond .eq 10, 3) := by decide +kernel
theorem dX9_operand_188 : decode cX9_operand 188 = .ok (.aload_n 0, 1) := by decide +kernel
theorem dX9_operand_189 : decode cX9_operand 189 = .ok (.invokevirtual 198, 3) := by decide +kernel
theorem dX9_operand_192 : decode cX9_operand 192 = .ok (.goto 4, 3) := by decide +kernel
theorem dX9_operand_195 : decode cX9_operand 195 = .ok (.iconst 0, 1) := by decide +kernel
theorem dX9_operand_196 : decode cX9_operand 196 = .ok (.istore_n 3, 1) := by decide +kernel
theorem dX9_operand_197 : decode cX9_operand 197 = .ok (.aload_n 0, 1) := by decide +kernel
theorem dX9_operand_198 : decode cX9_operand 198 = .ok (.invokevirtual 188, 3) := by decide +kernel
theorem dX9_operand_201 : decode cX9_operand 201 = .ok (.ifCond .eq 10, 3) := by decide +kernel
theorem dX9_operand_204 : decode cX9_operand 204 = .ok (.aload_n 0, 1) := by decide +kernel
theorem dX9_operand_205 : decode cX9_operand 205 = .ok (.iconst 1, 1) := by decide +kernel
theorem dX9_operand_206 : decode cX9_operand 206 = .ok (.iload_n 2, 1) := by decide +kernel
theorem dX9_operand_207 : decode cX9_operand 207 = .ok (.iload_n 3, 1) := by decide +kernel
theorem dX9_operand_208 : decode cX9_operand 208 = .ok (.invokevirtual 201, 3) := by decide +kernel
theorem dX9_operand_211 : decode cX9_operand 211 = .ok (.goto 74, 3) := by decide +kernel
theorem dX9_operand_214 : decode cX9_operand 214 = .ok (.iload_n 1, 1) := by decide +kernel
theorem dX9_operand_215 : decode cX9_operand 215 = .ok (.bipush 75, 2) := by decide +kernel
theorem dX9_operand_217 : decode cX9_operand 217 = .ok (.if_icmp .ne 64, 3) := by decide +kernel
theorem dX9_operand_220 : decode cX9_operand 220 = .ok (.aload_n 0, 1) := by decide +kernel
theorem dX9_operand_221 : decode cX9_operand 221 = .ok (.dup, 1) := by decide +kernel
theorem dX9_operand_222 : decode cX9_operand 222 = .ok (.getfield 165, 3) := by decide +kernel
theorem dX9_operand_225 : decode cX9_operand 225 = .ok (.iconst 1, 1) := by decide +kernel
theorem dX9_operand_226 : decode cX9_operand 226 = .ok (.iadd, 1) := by decide +kernel
theorem dX9_operand_227 : decode cX9_operand 227 = .ok (.putfield 165, 3) := by decide +kernel
theorem dX9_operand_230 : decode cX9_operand 230 = .ok (.aload_n 0, 1) := by decide +kernel
theorem dX9_operand_231 : decode cX9_operand 231 = .ok (.invokevirtual 177, 3) := by decide +kernel
theorem dX9_operand_234 : decode cX9_operand 234 = .ok (.istore_n 2, 1) := by decide +kernel
theorem dX9_operand_235 : decode cX9_operand 235 = .ok (.iload_n 2, 1) := by decide +kernel
theorem dX9_operand_236 : decode cX9_operand 236 = .ok (.bipush 97, 2) := by decide +kernel
theorem dX9_operand_238 : decode cX9_operand 238 = .ok (.if_icmp .lt 9, 3) := by decide +kernel
theorem dX9_operand_241 : decode cX9_operand 241 = .ok (.iload_n 2, 1) := by decide +kernel
theorem dX9_operand_242 : decode cX9_operand 242 = .ok (.bipush 104, 2) := by decide +kernel
theorem dX9_operand_244 : decode cX9_operand 244 = .ok (.if_icmp .le 7, 3) := by decide +kernel
theorem dX9_operand_247 : decode cX9_operand 247 = .ok (.aload_n 0, 1) := by decide +kernel
theorem dX9_operand_248 : decode cX9_operand 248 = .ok (.invokevirtual 185, 3) := by decide +kernel
theorem dX9_operand_251 : decode cX9_operand 251 = .ok (.aload_n 0, 1) := by decide +kernel
theorem dX9_operand_252 : decode cX9_operand 252 = .ok (.invokevirtual 188, 3) := by decide +kernel
theorem dX9_operand_255 : decode cX9_operand 255 = .ok (.ifCond .eq 13, 3) := by decide +kernel
theorem dX9_operand_258 : decode cX9_operand 258 = .ok (.aload_n 0, 1) := by decide +kernel
theorem dX9_operand_259 : decode cX9_operand 259 = .ok (.iconst 2, 1) := by decide +kernel
theorem dX9_operand_260 : decode cX9_operand 260 = .ok (.iload_n 2, 1) := by decide +kernel
theorem dX9_operand_261 : decode cX9_operand 261 = .ok (.bipush 97, 2) := by decide +kernel
theorem dX9_operand_263 : decode cX9_operand 263 = .ok (.isub, 1) := by decide +kernel
theorem dX9_operand_264 : decode cX9_operand 264 = .ok (.iconst 0, 1) := by decide +kernel
theorem dX9_operand_265 : decode cX9_operand 265 = .ok (.invokevirtual 201, 3) := by decide +kernel
theorem dX9_operand_268 : decode cX9_operand 268 = .ok (.aload_n 0, 1) := by decide +kernel
theorem dX9_operand_269 : decode cX9_operand 269 = .ok (.dup, 1) := by decide +kernel
theorem dX9_operand_270 : decode cX9_operand 270 = .ok (.getfield 165, 3) := by decide +kernel
theorem dX9_operand_273 : decode cX9_operand 273 = .ok (.iconst 1, 1) := by decide +kernel
theorem dX9_operand_274 : decode cX9_operand 274 = .ok (.iadd, 1) := by decide +kernel
theorem dX9_operand_275 : decode cX9_operand 275 = .ok (.putfield 165, 3) := by decide +kernel
theorem dX9_operand_278 : decode cX9_operand 278 = .ok (.goto 7, 3) := by decide +kernel
theorem dX9_operand_281 : decode cX9_operand 281 = .ok (.aload_n 0, 1) := by decide +kernel
theorem dX9_operand_282 : decode cX9_operand 282 = .ok (.invokevirtual 185, 3) := by decide +kernel
theorem dX9_operand_285 : decode cX9_operand 285 = .ok (.aload_n 0, 1) := by decide +kernel
theorem dX9_operand_286 : decode cX9_operand 286 = .ok (.invokevirtual 188, 3) := by decide +kernel
theorem dX9_operand_289 : decode cX9_operand 289 = .ok (.ireturn, 1) := by decide +kernel
theorem dX9_nots_0 : decode cX9_nots 0 = .ok (.aload_n 0, 1) := by decide +kernel
theorem dX9_nots_1 : decode cX9_nots 1 = .ok (.getfield 195, 3) := by decide +kernel
theorem dX9_nots_4 : decode cX9_nots 4 = .ok (.ifCond .le 48, 3) := by decide +kernel
theorem dX9_nots_7 : decode cX9_nots 7 = .ok (.aload_n 0, 1) := by decide +kernel
theorem dX9_nots_8 : decode cX9_nots 8 = .ok (.getfield 39, 3) := by decide +kernel
theorem dX9_nots_11 : decode cX9_nots 11 = .ok (.aload_n 0, 1) := by decide +kernel
theorem dX9_nots_12 : decode cX9_nots 12 = .ok (.getfield 195, 3) := by decide +kernel
theorem dX9_nots_15 : decode cX9_nots 15 = .ok (.iconst 1, 1) := by decide +kernel
theorem dX9_nots_16 : decode cX9_nots 16 = .ok (.isub, 1) := by decide +kernel
theorem dX9_nots_17 : decode cX9_nots 17 = .ok (.iaload, 1) := by decide +kernel
theorem dX9_nots_18 : decode cX9_nots 18 = .ok (.iconst 3, 1) := by decide +kernel
theorem dX9_nots_19 : decode cX9_nots 19 = .ok (.if_icmp .ne 33, 3) := by decide +kernel
theorem dX9_nots_22 : decode cX9_nots 22 = .ok (.aload_n 0, 1) := by decide +kernel
theorem dX9_nots_23 : decode cX9_nots 23 = .ok (.iconst 3, 1) := by decide +kernel
theorem dX9_nots_24 : decode cX9_nots 24 = .ok (.iconst 0, 1) := by decide +kernel
theorem dX9_nots_25 : decode cX9_nots 25 = .ok (.iconst 0, 1) := by decide +kernel
theorem dX9_nots_26 : decode cX9_nots 26 = .ok (.invokevirtual 201, 3) := by decide +kernel
theorem dX9_nots_29 : decode cX9_nots 29 = .ok (.aload_n 0, 1) := by decide +kernel
theorem dX9_nots_30 : decode cX9_nots 30 = .ok (.dup, 1) := by decide +kernel
theorem dX9_nots_31 : decode cX9_nots 31 = .ok (.getfield 195, 3) := by decide +kernel
theorem dX9_nots_34 : decode cX9_nots 34 = .ok (.iconst 1, 1) := by decide +kernel
theorem dX9_nots_35 : decode cX9_nots 35 = .ok (.isub, 1) := by decide +kernel
theorem dX9_nots_36 : decode cX9_nots 36 = .ok (.putfield 195, 3) := by decide +kernel
theorem dX9_nots_39 : decode cX9_nots 39 = .ok (.aload_n 0, 1) := by decide +kernel
theorem dX9_nots_40 : decode cX9_nots 40 = .ok (.dup, 1) := by decide +kernel
theorem dX9_nots_41 : decode cX9_nots 41 = .ok (.getfield 192, 3) := by decide +kernel
theorem dX9_nots_44 : decode cX9_nots 44 = .ok (.iconst 1, 1) := by decide +kernel
theorem dX9_nots_45 : decode cX9_nots 45 = .ok (.isub, 1) := by decide +kernel
theorem dX9_nots_46 : decode cX9_nots 46 = .ok (.putfield 192, 3) := by decide +kernel
theorem dX9_nots_49 : decode cX9_nots 49 = .ok (.goto (-49), 3) := by decide +kernel
theorem dX9_nots_52 : decode cX9_nots 52 = .ok (.return_, 1) := by decide +kernel
theorem dX9_settle_0 : decode cX9_settle 0 = .ok (.aload_n 0, 1) := by decide +kernel
theorem dX9_settle_1 : decode cX9_settle 1 = .ok (.getfield 195, 3) := by decide +kernel
theorem dX9_settle_4 : decode cX9_settle 4 = .ok (.ifCond .le 68, 3) := by decide +kernel
theorem dX9_settle_7 : decode cX9_settle 7 = .ok (.aload_n 0, 1) := by decide +kernel
theorem dX9_settle_8 : decode cX9_settle 8 = .ok (.getfield 39, 3) := by decide +kernel
theorem dX9_settle_11 : decode cX9_settle 11 = .ok (.aload_n 0, 1) := by decide +kernel
theorem dX9_settle_12 : decode cX9_settle 12 = .ok (.getfield 195, 3) := by decide +kernel
theorem dX9_settle_15 : decode cX9_settle 15 = .ok (.iconst 1, 1) := by decide +kernel
theorem dX9_settle_16 : decode cX9_settle 16 = .ok (.isub, 1) := by decide +kernel
theorem dX9_settle_17 : decode cX9_settle 17 = .ok (.iaload, 1) := by decide +kernel
theorem dX9_settle_18 : decode cX9_settle 18 = .ok (.iconst 4, 1) := by decide +kernel
theorem dX9_settle_19 : decode cX9_settle 19 = .ok (.if_icmp .eq 23, 3) := by decide +kernel
theorem dX9_settle_22 : decode cX9_settle 22 = .ok (.aload_n 0, 1) := by decide +kernel
theorem dX9_settle_23 : decode cX9_settle 23 = .ok (.getfield 39, 3) := by decide +kernel
theorem dX9_settle_26 : decode cX9_settle 26 = .ok (.aload_n 0, 1) := by decide +kernel
theorem dX9_settle_27 : decode cX9_settle 27 = .ok (.getfield 195, 3) := by decide +kernel
theorem dX9_settle_30 : decode cX9_settle 30 = .ok (.iconst 1, 1) := by decide +kernel
theorem dX9_settle_31 : decode cX9_settle 31 = .ok (.isub, 1) := by decide +kernel
theorem dX9_settle_32 : decode cX9_settle 32 = .ok (.iaload, 1) := by decide +kernel
theorem dX9_settle_33 : decode cX9_settle 33 = .ok (.iconst 5, 1) := by decide +kernel
theorem dX9_settle_34 : decode cX9_settle 34 = .ok (.if_icmp .ne 38, 3) := by decide +kernel
theorem dX9_settle_37 : decode cX9_settle 37 = .ok (.iload_n 1, 1) := by decide +kernel
theorem dX9_settle_38 : decode cX9_settle 38 = .ok (.iconst 5, 1) := by decide +kernel
theorem dX9_settle_39 : decode cX9_settle 39 = .ok (.if_icmp .ne 33, 3) := by decide +kernel
theorem dX9_settle_42 : decode cX9_settle 42 = .ok (.aload_n 0, 1) := by decide +kernel
theorem dX9_settle_43 : decode cX9_settle 43 = .ok (.aload_n 0, 1) := by decide +kernel
theorem dX9_settle_44 : decode cX9_settle 44 = .ok (.getfield 39, 3) := by decide +kernel
theorem dX9_settle_47 : decode cX9_settle 47 = .ok (.aload_n 0, 1) := by decide +kernel
theorem dX9_settle_48 : decode cX9_settle 48 = .ok (.getfield 195, 3) := by decide +kernel
theorem dX9_settle_51 : decode cX9_settle 51 = .ok (.iconst 1, 1) := by decide +kernel
theorem dX9_settle_52 : decode cX9_settle 52 = .ok (.isub, 1) := by decide +kernel
theorem dX9_settle_53 : decode cX9_settle 53 = .ok (.iaload, 1) := by decide +kernel
theorem dX9_settle_54 : decode cX9_settle 54 = .ok (.iconst 0, 1) := by decide +kernel
theorem dX9_settle_55 : decode cX9_settle 55 = .ok (.iconst 0, 1) := by decide +kernel
theorem dX9_settle_56 : decode cX9_settle 56 = .ok (.invokevirtual 201, 3) := by decide +kernel
theorem dX9_settle_59 : decode cX9_settle 59 = .ok (.aload_n 0, 1) := by decide +kernel
theorem dX9_settle_60 : decode cX9_settle 60 = .ok (.dup, 1) := by decide +kernel
theorem dX9_settle_61 : decode cX9_settle 61 = .ok (.getfield 195, 3) := by decide +kernel
theorem dX9_settle_64 : decode cX9_settle 64 = .ok (.iconst 1, 1) := by decide +kernel
theorem dX9_settle_65 : decode cX9_settle 65 = .ok (.isub, 1) := by decide +kernel
theorem dX9_settle_66 : decode cX9_settle 66 = .ok (.putfield 195, 3) := by decide +kernel
theorem dX9_settle_69 : decode cX9_settle 69 = .ok (.goto (-69), 3) := by decide +kernel
theorem dX9_settle_72 : decode cX9_settle 72 = .ok (.return_, 1) := by decide +kernel
theorem dX9_fit_0 : decode cX9_fit 0 = .ok (.aload_n 0, 1) := by decide +kernel
theorem dX9_fit_1 : decode cX9_fit 1 = .ok (.iconst 0, 1) := by decide +kernel
theorem dX9_fit_2 : decode cX9_fit 2 = .ok (.putfield 1, 3) := by decide +kernel
theorem dX9_fit_5 : decode cX9_fit 5 = .ok (.aload_n 0, 1) := by decide +kernel
theorem dX9_fit_6 : decode cX9_fit 6 = .ok (.iload_n 1, 1) := by decide +kernel
theorem dX9_fit_7 : decode cX9_fit 7 = .ok (.ifCond .lt 15, 3) := by decide +kernel
theorem dX9_fit_10 : decode cX9_fit 10 = .ok (.iload_n 1, 1) := by decide +kernel
theorem dX9_fit_11 : decode cX9_fit 11 = .ok (.aload_n 0, 1) := by decide +kernel
theorem dX9_fit_12 : decode cX9_fit 12 = .ok (.getfield 162, 3) := by decide +kernel
theorem dX9_fit_15 : decode cX9_fit 15 = .ok (.if_icmp .gt 7, 3) := by decide +kernel
theorem dX9_fit_18 : decode cX9_fit 18 = .ok (.iconst 1, 1) := by decide +kernel
theorem dX9_fit_19 : decode cX9_fit 19 = .ok (.goto 4, 3) := by decide +kernel
theorem dX9_fit_22 : decode cX9_fit 22 = .ok (.iconst 0, 1) := by decide +kernel
theorem dX9_fit_23 : decode cX9_fit 23 = .ok (.iconst 1, 1) := by decide +kernel
theorem dX9_fit_24 : decode cX9_fit 24 = .ok (.invokevirtual 151, 3) := by decide +kernel
theorem dX9_fit_27 : decode cX9_fit 27 = .ok (.ifCond .ne 5, 3) := by decide +kernel
theorem dX9_fit_30 : decode cX9_fit 30 = .ok (.iconst 0, 1) := by decide +kernel
theorem dX9_fit_31 : decode cX9_fit 31 = .ok (.ireturn, 1) := by decide +kernel
theorem dX9_fit_32 : decode cX9_fit 32 = .ok (.aload_n 0, 1) := by decide +kernel
theorem dX9_fit_33 : decode cX9_fit 33 = .ok (.iconst 0, 1) := by decide +kernel
theorem dX9_fit_34 : decode cX9_fit 34 = .ok (.putfield 162, 3) := by decide +kernel
theorem dX9_fit_37 : decode cX9_fit 37 = .ok (.aload_n 0, 1) := by decide +kernel
theorem dX9_fit_38 : decode cX9_fit 38 = .ok (.iload_n 1, 1) := by decide +kernel
theorem dX9_fit_39 : decode cX9_fit 39 = .ok (.putfield 168, 3) := by decide +kernel
theorem dX9_fit_42 : decode cX9_fit 42 = .ok (.aload_n 0, 1) := by decide +kernel
theorem dX9_fit_43 : decode cX9_fit 43 = .ok (.iconst 0, 1) := by decide +kernel
theorem dX9_fit_44 : decode cX9_fit 44 = .ok (.putfield 165, 3) := by decide +kernel
theorem dX9_fit_47 : decode cX9_fit 47 = .ok (.aload_n 0, 1) := by decide +kernel
theorem dX9_fit_48 : decode cX9_fit 48 = .ok (.iconst (-1), 1) := by decide +kernel
theorem dX9_fit_49 : decode cX9_fit 49 = .ok (.putfield 171, 3) := by decide +kernel
theorem dX9_fit_52 : decode cX9_fit 52 = .ok (.aload_n 0, 1) := by decide +kernel
theorem dX9_fit_53 : decode cX9_fit 53 = .ok (.getfield 27, 3) := by decide +kernel
theorem dX9_fit_56 : decode cX9_fit 56 = .ok (.aload_n 0, 1) := by decide +kernel
theorem dX9_fit_57 : decode cX9_fit 57 = .ok (.getfield 174, 3) := by decide +kernel
theorem dX9_fit_60 : decode cX9_fit 60 = .ok (.iconst 0, 1) := by decide +kernel
theorem dX9_fit_61 : decode cX9_fit 61 = .ok (.iastore, 1) := by decide +kernel
theorem dX9_fit_62 : decode cX9_fit 62 = .ok (.aload_n 0, 1) := by decide +kernel
theorem dX9_fit_63 : decode cX9_fit 63 = .ok (.iconst 0, 1) := by decide +kernel
theorem dX9_fit_64 : decode cX9_fit 64 = .ok (.putfield 195, 3) := by decide +kernel
theorem dX9_fit_67 : decode cX9_fit 67 = .ok (.aload_n 0, 1) := by decide +kernel
theorem dX9_fit_68 : decode cX9_fit 68 = .ok (.iconst 0, 1) := by decide +kernel
theorem dX9_fit_69 : decode cX9_fit 69 = .ok (.putfield 192, 3) := by decide +kernel
theorem dX9_fit_72 : decode cX9_fit 72 = .ok (.iconst 1, 1) := by decide +kernel
theorem dX9_fit_73 : decode cX9_fit 73 = .ok (.istore_n 2, 1) := by decide +kernel
theorem dX9_fit_74 : decode cX9_fit 74 = .ok (.iconst 1, 1) := by decide +kernel
theorem dX9_fit_75 : decode cX9_fit 75 = .ok (.istore_n 3, 1) := by decide +kernel
theorem dX9_fit_76 : decode cX9_fit 76 = .ok (.iload_n 3, 1) := by decide +kernel
theorem dX9_fit_77 : decode cX9_fit 77 = .ok (.ifCond .eq 256, 3) := by decide +kernel
theorem dX9_fit_80 : decode cX9_fit 80 = .ok (.aload_n 0, 1) := by decide +kernel
theorem dX9_fit_81 : decode cX9_fit 81 = .ok (.invokevirtual 188, 3) := by decide +kernel
theorem dX9_fit_84 : decode cX9_fit 84 = .ok (.ifCond .eq 249, 3) := by decide +kernel
theorem dX9_fit_87 : decode cX9_fit 87 = .ok (.iload_n 2, 1) := by decide +kernel
theorem dX9_fit_88 : decode cX9_fit 88 = .ok (.ifCond .eq 27, 3) := by decide +kernel
theorem dX9_fit_91 : decode cX9_fit 91 = .ok (.aload_n 0, 1) := by decide +kernel
theorem dX9_fit_92 : decode cX9_fit 92 = .ok (.invokevirtual 205, 3) := by decide +kernel
theorem dX9_fit_95 : decode cX9_fit 95 = .ok (.ifCond .ne 7, 3) := by decide +kernel
theorem dX9_fit_98 : decode cX9_fit 98 = .ok (.iconst 1, 1) := by decide +kernel
theorem dX9_fit_99 : decode cX9_fit 99 = .ok (.goto 4, 3) := by decide +kernel
theorem dX9_fit_102 : decode cX9_fit 102 = .ok (.iconst 0, 1) := by decide +kernel
theorem dX9_fit_103 : decode cX9_fit 103 = .ok (.istore_n 2, 1) := by decide +kernel
theorem dX9_fit_104 : decode cX9_fit 104 = .ok (.iload_n 2, 1) := by decide +kernel
theorem dX9_fit_105 : decode cX9_fit 105 = .ok (.ifCond .ne (-29), 3) := by decide +kernel
theorem dX9_fit_108 : decode cX9_fit 108 = .ok (.aload_n 0, 1) := by decide +kernel
theorem dX9_fit_109 : decode cX9_fit 109 = .ok (.invokevirtual 208, 3) := by decide +kernel
theorem dX9_fit_112 : decode cX9_fit 112 = .ok (.goto (-36), 3) := by decide +kernel
theorem dX9_fit_115 : decode cX9_fit 115 = .ok (.aload_n 0, 1) := by decide +kernel
theorem dX9_fit_116 : decode cX9_fit 116 = .ok (.invokevirtual 177, 3) := by decide +kernel
theorem dX9_fit_119 : decode cX9_fit 119 = .ok (.istore 4, 2) := by decide +kernel
theorem dX9_fit_121 : decode cX9_fit 121 = .ok (.iload 4, 2) := by decide +kernel
theorem dX9_fit_123 : decode cX9_fit 123 = .ok (.bipush 38, 2) := by decide +kernel
theorem dX9_fit_125 : decode cX9_fit 125 = .ok (.if_icmp .ne 43, 3) := by decide +kernel
theorem dX9_fit_128 : decode cX9_fit 128 = .ok (.aload_n 0, 1) := by decide +kernel
theorem dX9_fit_129 : decode cX9_fit 129 = .ok (.iconst 4, 1) := by decide +kernel
theorem dX9_fit_130 : decode cX9_fit 130 = .ok (.invokevirtual 211, 3) := by decide +kernel
theorem dX9_fit_133 : decode cX9_fit 133 = .ok (.aload_n 0, 1) := by decide +kernel
theorem dX9_fit_134 : decode cX9_fit 134 = .ok (.getfield 39, 3) := by decide +kernel
theorem dX9_fit_137 : decode cX9_fit 137 = .ok (.aload_n 0, 1) := by decide +kernel
theorem dX9_fit_138 : decode cX9_fit 138 = .ok (.getfield 195, 3) := by decide +kernel
theorem dX9_fit_141 : decode cX9_fit 141 = .ok (.iconst 4, 1) := by decide +kernel
theorem dX9_fit_142 : decode cX9_fit 142 = .ok (.iastore, 1) := by decide +kernel
theorem dX9_fit_143 : decode cX9_fit 143 = .ok (.aload_n 0, 1) := by decide +kernel
theorem dX9_fit_144 : decode cX9_fit 144 = .ok (.dup, 1) := by decide +kernel
theorem dX9_fit_145 : decode cX9_fit 145 = .ok (.getfield 195, 3) := by decide +kernel
theorem dX9_fit_148 : decode cX9_fit 148 = .ok (.iconst 1, 1) := by decide +kernel
theorem dX9_fit_149 : decode cX9_fit 149 = .ok (.iadd, 1) := by decide +kernel
theorem dX9_fit_150 : decode cX9_fit 150 = .ok (.putfield 195, 3) := by decide +kernel
theorem dX9_fit_153 : decode cX9_fit 153 = .ok (.aload_n 0, 1) := by decide +kernel
theorem dX9_fit_154 : decode cX9_fit 154 = .ok (.dup, 1) := by decide +kernel
theorem dX9_fit_155 : decode cX9_fit 155 = .ok (.getfield 165, 3) := by decide +kernel
theorem dX9_fit_158 : decode cX9_fit 158 = .ok (.iconst 1, 1) := by decide +kernel
theorem dX9_fit_159 : decode cX9_fit 159 = .ok (.iadd, 1) := by decide +kernel
theorem dX9_fit_160 : decode cX9_fit 160 = .ok (.putfield 165, 3) := by decide +kernel
theorem dX9_fit_163 : decode cX9_fit 163 = .ok (.iconst 1, 1) := by decide +kernel
theorem dX9_fit_164 : decode cX9_fit 164 = .ok (.istore_n 2, 1) := by decide +kernel
theorem dX9_fit_165 : decode cX9_fit 165 = .ok (.goto 165, 3) := by decide +kernel
theorem dX9_fit_168 : decode cX9_fit 168 = .ok (.iload 4, 2) := by decide +kernel
theorem dX9_fit_170 : decode cX9_fit 170 = .ok (.bipush 124, 2) := by decide +kernel
theorem dX9_fit_172 : decode cX9_fit 172 = .ok (.if_icmp .ne 43, 3) := by decide +kernel
theorem dX9_fit_175 : decode cX9_fit 175 = .ok (.aload_n 0, 1) := by decide +kernel
theorem dX9_fit_176 : decode cX9_fit 176 = .ok (.iconst 5, 1) := by decide +kernel
theorem dX9_fit_177 : decode cX9_fit 177 = .ok (.invokevirtual 211, 3) := by decide +kernel
theorem dX9_fit_180 : decode cX9_fit 180 = .ok (.aload_n 0, 1) := by decide +kernel
theorem dX9_fit_181 : decode cX9_fit 181 = .ok (.getfield 39, 3) := by decide +kernel
theorem dX9_fit_184 : decode cX9_fit 184 = .ok (.aload_n 0, 1) := by decide +kernel
theorem dX9_fit_185 : decode cX9_fit 185 = .ok (.getfield 195, 3) := by decide +kernel
theorem dX9_fit_188 : decode cX9_fit 188 = .ok (.iconst 5, 1) := by decide +kernel
theorem dX9_fit_189 : decode cX9_fit 189 = .ok (.iastore, 1) := by decide +kernel
theorem dX9_fit_190 : decode cX9_fit 190 = .ok (.aload_n 0, 1) := by decide +kernel
theorem dX9_fit_191 : decode cX9_fit 191 = .ok (.dup, 1) := by decide +kernel
theorem dX9_fit_192 : decode cX9_fit 192 = .ok (.getfield 195, 3) := by decide +kernel
theorem dX9_fit_195 : decode cX9_fit 195 = .ok (.iconst 1, 1) := by decide +kernel
theorem dX9_fit_196 : decode cX9_fit 196 = .ok (.iadd, 1) := by decide +kernel
theorem dX9_fit_197 : decode cX9_fit 197 = .ok (.putfield 195, 3) := by decide +kernel
theorem dX9_fit_200 : decode cX9_fit 200 = .ok (.aload_n 0, 1) := by decide +kernel
theorem dX9_fit_201 : decode cX9_fit 201 = .ok (.dup, 1) := by decide +kernel
theorem dX9_fit_202 : decode cX9_fit 202 = .ok (.getfield 165, 3) := by decide +kernel
theorem dX9_fit_205 : decode cX9_fit 205 = .ok (.iconst 1, 1) := by decide +kernel
theorem dX9_fit_206 : decode cX9_fit 206 = .ok (.iadd, 1) := by decide +kernel
theorem dX9_fit_207 : decode cX9_fit 207 = .ok (.putfield 165, 3) := by decide +kernel
theorem dX9_fit_210 : decode cX9_fit 210 = .ok (.iconst 1, 1) := by decide +kernel
theorem dX9_fit_211 : decode cX9_fit 211 = .ok (.istore_n 2, 1) := by decide +kernel
theorem dX9_fit_212 : decode cX9_fit 212 = .ok (.goto 118, 3) := by decide +kernel
theorem dX9_fit_215 : decode cX9_fit 215 = .ok (.iload 4, 2) := by decide +kernel
theorem dX9_fit_217 : decode cX9_fit 217 = .ok (.bipush 41, 2) := by decide +kernel
theorem dX9_fit_219 : decode cX9_fit 219 = .ok (.if_icmp .ne 82, 3) := by decide +kernel
theorem dX9_fit_222 : decode cX9_fit 222 = .ok (.aload_n 0, 1) := by decide +kernel
theorem dX9_fit_223 : decode cX9_fit 223 = .ok (.getfield 192, 3) := by decide +kernel
theorem dX9_fit_226 : decode cX9_fit 226 = .ok (.ifCond .le 75, 3) := by decide +kernel
theorem dX9_fit_229 : decode cX9_fit 229 = .ok (.aload_n 0, 1) := by decide +kernel
theorem dX9_fit_230 : decode cX9_fit 230 = .ok (.iconst 5, 1) := by decide +kernel
theorem dX9_fit_231 : decode cX9_fit 231 = .ok (.invokevirtual 211, 3) := by decide +kernel
theorem dX9_fit_234 : decode cX9_fit 234 = .ok (.aload_n 0, 1) := by decide +kernel
theorem dX9_fit_235 : decode cX9_fit 235 = .ok (.getfield 195, 3) := by decide +kernel
theorem dX9_fit_238 : decode cX9_fit 238 = .ok (.ifCond .le 56, 3) := by decide +kernel
theorem dX9_fit_241 : decode cX9_fit 241 = .ok (.aload_n 0, 1) := by decide +kernel
theorem dX9_fit_242 : decode cX9_fit 242 = .ok (.getfield 39, 3) := by decide +kernel
theorem dX9_fit_245 : decode cX9_fit 245 = .ok (.aload_n 0, 1) := by decide +kernel
theorem dX9_fit_246 : decode cX9_fit 246 = .ok (.getfield 195, 3) := by decide +kernel
theorem dX9_fit_249 : decode cX9_fit 249 = .ok (.iconst 1, 1) := by decide +kernel
theorem dX9_fit_250 : decode cX9_fit 250 = .ok (.isub, 1) := by decide +kernel
theorem dX9_fit_251 : decode cX9_fit 251 = .ok (.iaload, 1) := by decide +kernel
theorem dX9_fit_252 : decode cX9_fit 252 = .ok (.bipush 6, 2) := by decide +kernel
theorem dX9_fit_254 : decode cX9_fit 254 = .ok (.if_icmp .ne 40, 3) := by decide +kernel
theorem dX9_fit_257 : decode cX9_fit 257 = .ok (.aload_n 0, 1) := by decide +kernel
theorem dX9_fit_258 : decode cX9_fit 258 = .ok (.dup, 1) := by decide +kernel
theorem dX9_fit_259 : decode cX9_fit 259 = .ok (.getfield 195, 3) := by decide +kernel
theorem dX9_fit_262 : decode cX9_fit 262 = .ok (.iconst 1, 1) := by decide +kernel
theorem dX9_fit_263 : decode cX9_fit 263 = .ok (.isub, 1) := by decide +kernel
theorem dX9_fit_264 : decode cX9_fit 264 = .ok (.putfield 195, 3) := by decide +kernel
theorem dX9_fit_267 : decode cX9_fit 267 = .ok (.aload_n 0, 1) := by decide +kernel
theorem dX9_fit_268 : decode cX9_fit 268 = .ok (.dup, 1) := by decide +kernel
theorem dX9_fit_269 : decode cX9_fit 269 = .ok (.getfield 192, 3) := by decide +kernel
theorem dX9_fit_272 : decode cX9_fit 272 = .ok (.iconst 1, 1) := by decide +kernel
theorem dX9_fit_273 : decode cX9_fit 273 = .ok (.isub, 1) := by decide +kernel
theorem dX9_fit_274 : decode cX9_fit 274 = .ok (.putfield 192, 3) := by decide +kernel
theorem dX9_fit_277 : decode cX9_fit 277 = .ok (.aload_n 0, 1) := by decide +kernel
theorem dX9_fit_278 : decode cX9_fit 278 = .ok (.dup, 1) := by decide +kernel
theorem dX9_fit_279 : decode cX9_fit 279 = .ok (.getfield 165, 3) := by decide +kernel
theorem dX9_fit_282 : decode cX9_fit 282 = .ok (.iconst 1, 1) := by decide +kernel
theorem dX9_fit_283 : decode cX9_fit 283 = .ok (.iadd, 1) := by decide +kernel
theorem dX9_fit_284 : decode cX9_fit 284 = .ok (.putfield 165, 3) := by decide +kernel
theorem dX9_fit_287 : decode cX9_fit 287 = .ok (.aload_n 0, 1) := by decide +kernel
theorem dX9_fit_288 : decode cX9_fit 288 = .ok (.invokevirtual 208, 3) := by decide +kernel
theorem dX9_fit_291 : decode cX9_fit 291 = .ok (.goto 39, 3) := by decide +kernel
theorem dX9_fit_294 : decode cX9_fit 294 = .ok (.aload_n 0, 1) := by decide +kernel
theorem dX9_fit_295 : decode cX9_fit 295 = .ok (.invokevirtual 185, 3) := by decide +kernel
theorem dX9_fit_298 : decode cX9_fit 298 = .ok (.goto 32, 3) := by decide +kernel
theorem dX9_fit_301 : decode cX9_fit 301 = .ok (.aload_n 0, 1) := by decide +kernel
theorem dX9_fit_302 : decode cX9_fit 302 = .ok (.iconst 5, 1) := by decide +kernel
theorem dX9_fit_303 : decode cX9_fit 303 = .ok (.invokevirtual 211, 3) := by decide +kernel
theorem dX9_fit_306 : decode cX9_fit 306 = .ok (.aload_n 0, 1) := by decide +kernel
theorem dX9_fit_307 : decode cX9_fit 307 = .ok (.getfield 165, 3) := by decide +kernel
theorem dX9_fit_310 : decode cX9_fit 310 = .ok (.aload_n 0, 1) := by decide +kernel
theorem dX9_fit_311 : decode cX9_fit 311 = .ok (.getfield 168, 3) := by decide +kernel
theorem dX9_fit_314 : decode cX9_fit 314 = .ok (.if_icmp .lt 10, 3) := by decide +kernel
theorem dX9_fit_317 : decode cX9_fit 317 = .ok (.aload_n 0, 1) := by decide +kernel
theorem dX9_fit_318 : decode cX9_fit 318 = .ok (.getfield 195, 3) := by decide +kernel
theorem dX9_fit_321 : decode cX9_fit 321 = .ok (.ifCond .le 7, 3) := by decide +kernel
theorem dX9_fit_324 : decode cX9_fit 324 = .ok (.aload_n 0, 1) := by decide +kernel
theorem dX9_fit_325 : decode cX9_fit 325 = .ok (.invokevirtual 185, 3) := by decide +kernel
theorem dX9_fit_328 : decode cX9_fit 328 = .ok (.iconst 0, 1) := by decide +kernel
theorem dX9_fit_329 : decode cX9_fit 329 = .ok (.istore_n 3, 1) := by decide +kernel
theorem dX9_fit_330 : decode cX9_fit 330 = .ok (.goto (-254), 3) := by decide +kernel
theorem dX9_fit_333 : decode cX9_fit 333 = .ok (.aload_n 0, 1) := by decide +kernel
theorem dX9_fit_334 : decode cX9_fit 334 = .ok (.invokevirtual 188, 3) := by decide +kernel
theorem dX9_fit_337 : decode cX9_fit 337 = .ok (.ifCond .ne 11, 3) := by decide +kernel
theorem dX9_fit_340 : decode cX9_fit 340 = .ok (.bipush (-2), 2) := by decide +kernel
theorem dX9_fit_342 : decode cX9_fit 342 = .ok (.aload_n 0, 1) := by decide +kernel
theorem dX9_fit_343 : decode cX9_fit 343 = .ok (.getfield 171, 3) := by decide +kernel
theorem dX9_fit_346 : decode cX9_fit 346 = .ok (.isub, 1) := by decide +kernel
theorem dX9_fit_347 : decode cX9_fit 347 = .ok (.ireturn, 1) := by decide +kernel
theorem dX9_fit_348 : decode cX9_fit 348 = .ok (.aload_n 0, 1) := by decide +kernel
theorem dX9_fit_349 : decode cX9_fit 349 = .ok (.getfield 174, 3) := by decide +kernel
theorem dX9_fit_352 : decode cX9_fit 352 = .ok (.bipush 30, 2) := by decide +kernel
theorem dX9_fit_354 : decode cX9_fit 354 = .ok (.if_icmp .ne 5, 3) := by decide +kernel
theorem dX9_fit_357 : decode cX9_fit 357 = .ok (.iconst (-1), 1) := by decide +kernel
theorem dX9_fit_358 : decode cX9_fit 358 = .ok (.ireturn, 1) := by decide +kernel
theorem dX9_fit_359 : decode cX9_fit 359 = .ok (.aload_n 0, 1) := by decide +kernel
theorem dX9_fit_360 : decode cX9_fit 360 = .ok (.dup, 1) := by decide +kernel
theorem dX9_fit_361 : decode cX9_fit 361 = .ok (.getfield 174, 3) := by decide +kernel
theorem dX9_fit_364 : decode cX9_fit 364 = .ok (.iconst 1, 1) := by decide +kernel
theorem dX9_fit_365 : decode cX9_fit 365 = .ok (.iadd, 1) := by decide +kernel
theorem dX9_fit_366 : decode cX9_fit 366 = .ok (.putfield 174, 3) := by decide +kernel
theorem dX9_fit_369 : decode cX9_fit 369 = .ok (.aload_n 0, 1) := by decide +kernel
theorem dX9_fit_370 : decode cX9_fit 370 = .ok (.getfield 174, 3) := by decide +kernel
theorem dX9_fit_373 : decode cX9_fit 373 = .ok (.iconst 1, 1) := by decide +kernel
theorem dX9_fit_374 : decode cX9_fit 374 = .ok (.isub, 1) := by decide +kernel
theorem dX9_fit_375 : decode cX9_fit 375 = .ok (.ireturn, 1) := by decide +kernel
theorem dX9_asks_0 : decode cX9_asks 0 = .ok (.iconst 0, 1) := by decide +kernel
theorem dX9_asks_1 : decode cX9_asks 1 = .ok (.istore 5, 2) := by decide +kernel
theorem dX9_asks_3 : decode cX9_asks 3 = .ok (.bipush 100, 2) := by decide +kernel
theorem dX9_asks_5 : decode cX9_asks 5 = .ok (.iload_n 1, 1) := by decide +kernel
theorem dX9_asks_6 : decode cX9_asks 6 = .ok (.imul, 1) := by decide +kernel
theorem dX9_asks_7 : decode cX9_asks 7 = .ok (.istore 6, 2) := by decide +kernel
theorem dX9_asks_9 : decode cX9_asks 9 = .ok (.iload 6, 2) := by decide +kernel
theorem dX9_asks_11 : decode cX9_asks 11 = .ok (.bipush 100, 2) := by decide +kernel
theorem dX9_asks_13 : decode cX9_asks 13 = .ok (.iload_n 1, 1) := by decide +kernel
theorem dX9_asks_14 : decode cX9_asks 14 = .ok (.imul, 1) := by decide +kernel
theorem dX9_asks_15 : decode cX9_asks 15 = .ok (.aload_n 0, 1) := by decide +kernel
theorem dX9_asks_16 : decode cX9_asks 16 = .ok (.getfield 27, 3) := by decide +kernel
theorem dX9_asks_19 : decode cX9_asks 19 = .ok (.iload_n 1, 1) := by decide +kernel
theorem dX9_asks_20 : decode cX9_asks 20 = .ok (.iaload, 1) := by decide +kernel
theorem dX9_asks_21 : decode cX9_asks 21 = .ok (.iadd, 1) := by decide +kernel
theorem dX9_asks_22 : decode cX9_asks 22 = .ok (.if_icmp .ge 265, 3) := by decide +kernel
theorem dX9_asks_25 : decode cX9_asks 25 = .ok (.aload_n 0, 1) := by decide +kernel
theorem dX9_asks_26 : decode cX9_asks 26 = .ok (.getfield 30, 3) := by decide +kernel
theorem dX9_asks_29 : decode cX9_asks 29 = .ok (.iload 6, 2) := by decide +kernel
theorem dX9_asks_31 : decode cX9_asks 31 = .ok (.iaload, 1) := by decide +kernel
theorem dX9_asks_32 : decode cX9_asks 32 = .ok (.tableswitch 210 0 4 #[36, 65, 105, 139, 168], 36) := by decide +kernel
theorem dX9_asks_68 : decode cX9_asks 68 = .ok (.aload_n 0, 1) := by decide +kernel
theorem dX9_asks_69 : decode cX9_asks 69 = .ok (.getfield 42, 3) := by decide +kernel
theorem dX9_asks_72 : decode cX9_asks 72 = .ok (.iload 5, 2) := by decide +kernel
theorem dX9_asks_74 : decode cX9_asks 74 = .ok (.iload_n 2, 1) := by decide +kernel
theorem dX9_asks_75 : decode cX9_asks 75 = .ok (.aload_n 0, 1) := by decide +kernel
theorem dX9_asks_76 : decode cX9_asks 76 = .ok (.getfield 33, 3) := by decide +kernel
theorem dX9_asks_79 : decode cX9_asks 79 = .ok (.iload 6, 2) := by decide +kernel
theorem dX9_asks_81 : decode cX9_asks 81 = .ok (.iaload, 1) := by decide +kernel
theorem dX9_asks_82 : decode cX9_asks 82 = .ok (.if_icmp .ne 7, 3) := by decide +kernel
theorem dX9_asks_85 : decode cX9_asks 85 = .ok (.iconst 1, 1) := by decide +kernel
theorem dX9_asks_86 : decode cX9_asks 86 = .ok (.goto 4, 3) := by decide +kernel
theorem dX9_asks_89 : decode cX9_asks 89 = .ok (.iconst 0, 1) := by decide +kernel
theorem dX9_asks_90 : decode cX9_asks 90 = .ok (.bastore, 1) := by decide +kernel
theorem dX9_asks_91 : decode cX9_asks 91 = .ok (.iinc 5 1, 3) := by decide +kernel
theorem dX9_asks_94 : decode cX9_asks 94 = .ok (.goto 187, 3) := by decide +kernel
theorem dX9_asks_97 : decode cX9_asks 97 = .ok (.aload_n 0, 1) := by decide +kernel
theorem dX9_asks_98 : decode cX9_asks 98 = .ok (.getfield 42, 3) := by decide +kernel
theorem dX9_asks_101 : decode cX9_asks 101 = .ok (.iload 5, 2) := by decide +kernel
theorem dX9_asks_103 : decode cX9_asks 103 = .ok (.iload_n 3, 1) := by decide +kernel
theorem dX9_asks_104 : decode cX9_asks 104 = .ok (.aload_n 0, 1) := by decide +kernel
theorem dX9_asks_105 : decode cX9_asks 105 = .ok (.getfield 33, 3) := by decide +kernel
theorem dX9_asks_108 : decode cX9_asks 108 = .ok (.iload 6, 2) := by decide +kernel
theorem dX9_asks_110 : decode cX9_asks 110 = .ok (.iaload, 1) := by decide +kernel
theorem dX9_asks_111 : decode cX9_asks 111 = .ok (.if_icmp .lt 18, 3) := by decide +kernel
theorem dX9_asks_114 : decode cX9_asks 114 = .ok (.iload_n 3, 1) := by decide +kernel
theorem dX9_asks_115 : decode cX9_asks 115 = .ok (.aload_n 0, 1) := by decide +kernel
theorem dX9_asks_116 : decode cX9_asks 116 = .ok (.getfield 36, 3) := by decide +kernel
theorem dX9_asks_119 : decode cX9_asks 119 = .ok (.iload 6, 2) := by decide +kernel
theorem dX9_asks_121 : decode cX9_asks 121 = .ok (.iaload, 1) := by decide +kernel
theorem dX9_asks_122 : decode cX9_asks 122 = .ok (.if_icmp .gt 7, 3) := by decide +kernel
theorem dX9_asks_125 : decode cX9_asks 125 = .ok (.iconst 1, 1) := by decide +kernel
theorem dX9_asks_126 : decode cX9_asks 126 = .ok (.goto 4, 3) := by decide +kernel
theorem dX9_asks_129 : decode cX9_asks 129 = .ok (.iconst 0, 1) := by decide +kernel
theorem dX9_asks_130 : decode cX9_asks 130 = .ok (.bastore, 1) := by decide +kernel
theorem dX9_asks_131 : decode cX9_asks 131 = .ok (.iinc 5 1, 3) := by decide +kernel
theorem dX9_asks_134 : decode cX9_asks 134 = .ok (.goto 147, 3) := by decide +kernel
theorem dX9_asks_137 : decode cX9_asks 137 = .ok (.aload_n 0, 1) := by decide +kernel
theorem dX9_asks_138 : decode cX9_asks 138 = .ok (.getfield 42, 3) := by decide +kernel
theorem dX9_asks_141 : decode cX9_asks 141 = .ok (.iload 5, 2) := by decide +kernel
theorem dX9_asks_143 : decode cX9_asks 143 = .ok (.iload 4, 2) := by decide +kernel
theorem dX9_asks_145 : decode cX9_asks 145 = .ok (.aload_n 0, 1) := by decide +kernel
theorem dX9_asks_146 : decode cX9_asks 146 = .ok (.getfield 33, 3) := by decide +kernel
theorem dX9_asks_149 : decode cX9_asks 149 = .ok (.iload 6, 2) := by decide +kernel
theorem dX9_asks_151 : decode cX9_asks 151 = .ok (.iaload, 1) := by decide +kernel
theorem dX9_asks_152 : decode cX9_asks 152 = .ok (.ishr, 1) := by decide +kernel
theorem dX9_asks_153 : decode cX9_asks 153 = .ok (.iconst 1, 1) := by decide +kernel
theorem dX9_asks_154 : decode cX9_asks 154 = .ok (.iand, 1) := by decide +kernel
theorem dX9_asks_155 : decode cX9_asks 155 = .ok (.iconst 1, 1) := by decide +kernel
theorem dX9_asks_156 : decode cX9_asks 156 = .ok (.if_icmp .ne 7, 3) := by decide +kernel
theorem dX9_asks_159 : decode cX9_asks 159 = .ok (.iconst 1, 1) := by decide +kernel
theorem dX9_asks_160 : decode cX9_asks 160 = .ok (.goto 4, 3) := by decide +kernel
theorem dX9_asks_163 : decode cX9_asks 163 = .ok (.iconst 0, 1) := by decide +kernel
theorem dX9_asks_164 : decode cX9_asks 164 = .ok (.bastore, 1) := by decide +kernel
theorem dX9_asks_165 : decode cX9_asks 165 = .ok (.iinc 5 1, 3) := by decide +kernel
theorem dX9_asks_168 : decode cX9_asks 168 = .ok (.goto 113, 3) := by decide +kernel
theorem dX9_asks_171 : decode cX9_asks 171 = .ok (.aload_n 0, 1) := by decide +kernel
theorem dX9_asks_172 : decode cX9_asks 172 = .ok (.getfield 42, 3) := by decide +kernel
theorem dX9_asks_175 : decode cX9_asks 175 = .ok (.iload 5, 2) := by decide +kernel
theorem dX9_asks_177 : decode cX9_asks 177 = .ok (.iconst 1, 1) := by decide +kernel
theorem dX9_asks_178 : decode cX9_asks 178 = .ok (.isub, 1) := by decide +kernel
theorem dX9_asks_179 : decode cX9_asks 179 = .ok (.aload_n 0, 1) := by decide +kernel
theorem dX9_asks_180 : decode cX9_asks 180 = .ok (.getfield 42, 3) := by decide +kernel
theorem dX9_asks_183 : decode cX9_asks 183 = .ok (.iload 5, 2) := by decide +kernel
theorem dX9_asks_185 : decode cX9_asks 185 = .ok (.iconst 1, 1) := by decide +kernel
theorem dX9_asks_186 : decode cX9_asks 186 = .ok (.isub, 1) := by decide +kernel
theorem dX9_asks_187 : decode cX9_asks 187 = .ok (.baload, 1) := by decide +kernel
theorem dX9_asks_188 : decode cX9_asks 188 = .ok (.ifCond .ne 7, 3) := by decide +kernel
theorem dX9_asks_191 : decode cX9_asks 191 = .ok (.iconst 1, 1) := by decide +kernel
theorem dX9_asks_192 : decode cX9_asks 192 = .ok (.goto 4, 3) := by decide +kernel
theorem dX9_asks_195 : decode cX9_asks 195 = .ok (.iconst 0, 1) := by decide +kernel
theorem dX9_asks_196 : decode cX9_asks 196 = .ok (.bastore, 1) := by decide +kernel
theorem dX9_asks_197 : decode cX9_asks 197 = .ok (.goto 84, 3) := by decide +kernel
theorem dX9_asks_200 : decode cX9_asks 200 = .ok (.iinc 5 (-1), 3) := by decide +kernel
theorem dX9_asks_203 : decode cX9_asks 203 = .ok (.aload_n 0, 1) := by decide +kernel
theorem dX9_asks_204 : decode cX9_asks 204 = .ok (.getfield 42, 3) := by decide +kernel
theorem dX9_asks_207 : decode cX9_asks 207 = .ok (.iload 5, 2) := by decide +kernel
theorem dX9_asks_209 : decode cX9_asks 209 = .ok (.iconst 1, 1) := by decide +kernel
theorem dX9_asks_210 : decode cX9_asks 210 = .ok (.isub, 1) := by decide +kernel
theorem dX9_asks_211 : decode cX9_asks 211 = .ok (.aload_n 0, 1) := by decide +kernel
theorem dX9_asks_212 : decode cX9_asks 212 = .ok (.getfield 42, 3) := by decide +kernel
theorem dX9_asks_215 : decode cX9_asks 215 = .ok (.iload 5, 2) := by decide +kernel
theorem dX9_asks_217 : decode cX9_asks 217 = .ok (.iconst 1, 1) := by decide +kernel
theorem dX9_asks_218 : decode cX9_asks 218 = .ok (.isub, 1) := by decide +kernel
theorem dX9_asks_219 : decode cX9_asks 219 = .ok (.baload, 1) := by decide +kernel
theorem dX9_asks_220 : decode cX9_asks 220 = .ok (.ifCond .eq 17, 3) := by decide +kernel
theorem dX9_asks_223 : decode cX9_asks 223 = .ok (.aload_n 0, 1) := by decide +kernel
theorem dX9_asks_224 : decode cX9_asks 224 = .ok (.getfield 42, 3) := by decide +kernel
theorem dX9_asks_227 : decode cX9_asks 227 = .ok (.iload 5, 2) := by decide +kernel
theorem dX9_asks_229 : decode cX9_asks 229 = .ok (.baload, 1) := by decide +kernel
theorem dX9_asks_230 : decode cX9_asks 230 = .ok (.ifCond .eq 7, 3) := by decide +kernel
theorem dX9_asks_233 : decode cX9_asks 233 = .ok (.iconst 1, 1) := by decide +kernel
theorem dX9_asks_234 : decode cX9_asks 234 = .ok (.goto 4, 3) := by decide +kernel
theorem dX9_asks_237 : decode cX9_asks 237 = .ok (.iconst 0, 1) := by decide +kernel
theorem dX9_asks_238 : decode cX9_asks 238 = .ok (.bastore, 1) := by decide +kernel
theorem dX9_asks_239 : decode cX9_asks 239 = .ok (.goto 42, 3) := by decide +kernel
theorem dX9_asks_242 : decode cX9_asks 242 = .ok (.iinc 5 (-1), 3) := by decide +kernel
theorem dX9_asks_245 : decode cX9_asks 245 = .ok (.aload_n 0, 1) := by decide +kernel
theorem dX9_asks_246 : decode cX9_asks 246 = .ok (.getfield 42, 3) := by decide +kernel
theorem dX9_asks_249 : decode cX9_asks 249 = .ok (.iload 5, 2) := by decide +kernel
theorem dX9_asks_251 : decode cX9_asks 251 = .ok (.iconst 1, 1) := by decide +kernel
theorem dX9_asks_252 : decode cX9_asks 252 = .ok (.isub, 1) := by decide +kernel
theorem dX9_asks_253 : decode cX9_asks 253 = .ok (.aload_n 0, 1) := by decide +kernel
theorem dX9_asks_254 : decode cX9_asks 254 = .ok (.getfield 42, 3) := by decide +kernel
theorem dX9_asks_257 : decode cX9_asks 257 = .ok (.iload 5, 2) := by decide +kernel
theorem dX9_asks_259 : decode cX9_asks 259 = .ok (.iconst 1, 1) := by decide +kernel
theorem dX9_asks_260 : decode cX9_asks 260 = .ok (.isub, 1) := by decide +kernel
theorem dX9_asks_261 : decode cX9_asks 261 = .ok (.baload, 1) := by decide +kernel
theorem dX9_asks_262 : decode cX9_asks 262 = .ok (.ifCond .ne 13, 3) := by decide +kernel
theorem dX9_asks_265 : decode cX9_asks 265 = .ok (.aload_n 0, 1) := by decide +kernel
theorem dX9_asks_266 : decode cX9_asks 266 = .ok (.getfield 42, 3) := by decide +kernel
theorem dX9_asks_269 : decode cX9_asks 269 = .ok (.iload 5, 2) := by decide +kernel
theorem dX9_asks_271 : decode cX9_asks 271 = .ok (.baload, 1) := by decide +kernel
theorem dX9_asks_272 : decode cX9_asks 272 = .ok (.ifCond .eq 7, 3) := by decide +kernel
theorem dX9_asks_275 : decode cX9_asks 275 = .ok (.iconst 1, 1) := by decide +kernel
theorem dX9_asks_276 : decode cX9_asks 276 = .ok (.goto 4, 3) := by decide +kernel
theorem dX9_asks_279 : decode cX9_asks 279 = .ok (.iconst 0, 1) := by decide +kernel
theorem dX9_asks_280 : decode cX9_asks 280 = .ok (.bastore, 1) := by decide +kernel
theorem dX9_asks_281 : decode cX9_asks 281 = .ok (.iinc 6 1, 3) := by decide +kernel
theorem dX9_asks_284 : decode cX9_asks 284 = .ok (.goto (-275), 3) := by decide +kernel
theorem dX9_asks_287 : decode cX9_asks 287 = .ok (.aload_n 0, 1) := by decide +kernel
theorem dX9_asks_288 : decode cX9_asks 288 = .ok (.getfield 42, 3) := by decide +kernel
theorem dX9_asks_291 : decode cX9_asks 291 = .ok (.iconst 0, 1) := by decide +kernel
theorem dX9_asks_292 : decode cX9_asks 292 = .ok (.baload, 1) := by decide +kernel
theorem dX9_asks_293 : decode cX9_asks 293 = .ok (.ireturn, 1) := by decide +kernel
theorem dX9_says_0 : decode cX9_says 0 = .ok (.aload_n 0, 1) := by decide +kernel
theorem dX9_says_1 : decode cX9_says 1 = .ok (.iconst 0, 1) := by decide +kernel
theorem dX9_says_2 : decode cX9_says 2 = .ok (.putfield 1, 3) := by decide +kernel
theorem dX9_says_5 : decode cX9_says 5 = .ok (.aload_n 0, 1) := by decide +kernel
theorem dX9_says_6 : decode cX9_says 6 = .ok (.iload_n 1, 1) := by decide +kernel
theorem dX9_says_7 : decode cX9_says 7 = .ok (.ifCond .lt 15, 3) := by decide +kernel
theorem dX9_says_10 : decode cX9_says 10 = .ok (.iload_n 1, 1) := by decide +kernel
theorem dX9_says_11 : decode cX9_says 11 = .ok (.aload_n 0, 1) := by decide +kernel
theorem dX9_says_12 : decode cX9_says 12 = .ok (.getfield 174, 3) := by decide +kernel
theorem dX9_says_15 : decode cX9_says 15 = .ok (.if_icmp .ge 7, 3) := by decide +kernel
theorem dX9_says_18 : decode cX9_says 18 = .ok (.iconst 1, 1) := by decide +kernel
theorem dX9_says_19 : decode cX9_says 19 = .ok (.goto 4, 3) := by decide +kernel
theorem dX9_says_22 : decode cX9_says 22 = .ok (.iconst 0, 1) := by decide +kernel
theorem dX9_says_23 : decode cX9_says 23 = .ok (.iconst 1, 1) := by decide +kernel
theorem dX9_says_24 : decode cX9_says 24 = .ok (.invokevirtual 151, 3) := by decide +kernel
theorem dX9_says_27 : decode cX9_says 27 = .ok (.ifCond .eq 19, 3) := by decide +kernel
theorem dX9_says_30 : decode cX9_says 30 = .ok (.aload_n 0, 1) := by decide +kernel
theorem dX9_says_31 : decode cX9_says 31 = .ok (.iload_n 1, 1) := by decide +kernel
theorem dX9_says_32 : decode cX9_says 32 = .ok (.iload_n 2, 1) := by decide +kernel
theorem dX9_says_33 : decode cX9_says 33 = .ok (.iload_n 3, 1) := by decide +kernel
theorem dX9_says_34 : decode cX9_says 34 = .ok (.iload 4, 2) := by decide +kernel
theorem dX9_says_36 : decode cX9_says 36 = .ok (.invokevirtual 215, 3) := by decide +kernel
theorem dX9_says_39 : decode cX9_says 39 = .ok (.ifCond .eq 7, 3) := by decide +kernel
theorem dX9_says_42 : decode cX9_says 42 = .ok (.iconst 1, 1) := by decide +kernel
theorem dX9_says_43 : decode cX9_says 43 = .ok (.goto 4, 3) := by decide +kernel
theorem dX9_says_46 : decode cX9_says 46 = .ok (.iconst 0, 1) := by decide +kernel
theorem dX9_says_47 : decode cX9_says 47 = .ok (.ireturn, 1) := by decide +kernel
theorem dX9_least_0 : decode cX9_least 0 = .ok (.iload_n 1, 1) := by decide +kernel
theorem dX9_least_1 : decode cX9_least 1 = .ok (.iconst 2, 1) := by decide +kernel
theorem dX9_least_2 : decode cX9_least 2 = .ok (.if_icmp .eq 9, 3) := by decide +kernel
theorem dX9_least_5 : decode cX9_least 5 = .ok (.iload_n 1, 1) := by decide +kernel
theorem dX9_least_6 : decode cX9_least 6 = .ok (.bipush 7, 2) := by decide +kernel
theorem dX9_least_8 : decode cX9_least 8 = .ok (.if_icmp .ne 9, 3) := by decide +kernel
theorem dX9_least_11 : decode cX9_least 11 = .ok (.ldc2_w 219, 3) := by decide +kernel
theorem dX9_least_14 : decode cX9_least 14 = .ok (.goto 18, 3) := by decide +kernel
theorem dX9_least_17 : decode cX9_least 17 = .ok (.iload_n 1, 1) := by decide +kernel
theorem dX9_least_18 : decode cX9_least 18 = .ok (.iconst 3, 1) := by decide +kernel
theorem dX9_least_19 : decode cX9_least 19 = .ok (.if_icmp .eq 8, 3) := by decide +kernel
theorem dX9_least_22 : decode cX9_least 22 = .ok (.iload_n 1, 1) := by decide +kernel
theorem dX9_least_23 : decode cX9_least 23 = .ok (.iconst 4, 1) := by decide +kernel
theorem dX9_least_24 : decode cX9_least 24 = .ok (.if_icmp .ne 7, 3) := by decide +kernel
theorem dX9_least_27 : decode cX9_least 27 = .ok (.lconst 1, 1) := by decide +kernel
theorem dX9_least_28 : decode cX9_least 28 = .ok (.goto 4, 3) := by decide +kernel
theorem dX9_least_31 : decode cX9_least 31 = .ok (.lconst 0, 1) := by decide +kernel
theorem dX9_least_32 : decode cX9_least 32 = .ok (.lreturn, 1) := by decide +kernel
theorem dX9_most_0 : decode cX9_most 0 = .ok (.iload_n 1, 1) := by decide +kernel
theorem dX9_most_1 : decode cX9_most 1 = .ok (.tableswitch 77 0 6 #[43, 47, 51, 61, 65, 69, 73], 43) := by decide +kernel
theorem dX9_most_44 : decode cX9_most 44 = .ok (.ldc2_w 221, 3) := by decide +kernel
theorem dX9_most_47 : decode cX9_most 47 = .ok (.lreturn, 1) := by decide +kernel
theorem dX9_most_48 : decode cX9_most 48 = .ok (.ldc2_w 223, 3) := by decide +kernel
theorem dX9_most_51 : decode cX9_most 51 = .ok (.lreturn, 1) := by decide +kernel
theorem dX9_most_52 : decode cX9_most 52 = .ok (.aload_n 0, 1) := by decide +kernel
theorem dX9_most_53 : decode cX9_most 53 = .ok (.getfield 46, 3) := by decide +kernel
theorem dX9_most_56 : decode cX9_most 56 = .ok (.iload_n 2, 1) := by decide +kernel
theorem dX9_most_57 : decode cX9_most 57 = .ok (.iaload, 1) := by decide +kernel
theorem dX9_most_58 : decode cX9_most 58 = .ok (.iconst 1, 1) := by decide +kernel
theorem dX9_most_59 : decode cX9_most 59 = .ok (.isub, 1) := by decide +kernel
theorem dX9_most_60 : decode cX9_most 60 = .ok (.i2l, 1) := by decide +kernel
theorem dX9_most_61 : decode cX9_most 61 = .ok (.lreturn, 1) := by decide +kernel
theorem dX9_most_62 : decode cX9_most 62 = .ok (.ldc2_w 225, 3) := by decide +kernel
theorem dX9_most_65 : decode cX9_most 65 = .ok (.lreturn, 1) := by decide +kernel
theorem dX9_most_66 : decode cX9_most 66 = .ok (.ldc2_w 227, 3) := by decide +kernel
theorem dX9_most_69 : decode cX9_most 69 = .ok (.lreturn, 1) := by decide +kernel
theorem dX9_most_70 : decode cX9_most 70 = .ok (.ldc2_w 229, 3) := by decide +kernel
theorem dX9_most_73 : decode cX9_most 73 = .ok (.lreturn, 1) := by decide +kernel
theorem dX9_most_74 : decode cX9_most 74 = .ok (.ldc2_w 231, 3) := by decide +kernel
theorem dX9_most_77 : decode cX9_most 77 = .ok (.lreturn, 1) := by decide +kernel
theorem dX9_most_78 : decode cX9_most 78 = .ok (.aload_n 0, 1) := by decide +kernel
theorem dX9_most_79 : decode cX9_most 79 = .ok (.getfield 174, 3) := by decide +kernel
theorem dX9_most_82 : decode cX9_most 82 = .ok (.iconst 1, 1) := by decide +kernel
theorem dX9_most_83 : decode cX9_most 83 = .ok (.isub, 1) := by decide +kernel
theorem dX9_most_84 : decode cX9_most 84 = .ok (.i2l, 1) := by decide +kernel
theorem dX9_most_85 : decode cX9_most 85 = .ok (.lreturn, 1) := by decide +kernel
theorem dX9_part_0 : decode cX9_part 0 = .ok (.aload_n 0, 1) := by decide +kernel
theorem dX9_part_1 : decode cX9_part 1 = .ok (.iconst 0, 1) := by decide +kernel
theorem dX9_part_2 : decode cX9_part 2 = .ok (.putfield 1, 3) := by decide +kernel
theorem dX9_part_5 : decode cX9_part 5 = .ok (.aload_n 0, 1) := by decide +kernel
theorem dX9_part_6 : decode cX9_part 6 = .ok (.iload_n 1, 1) := by decide +kernel
theorem dX9_part_7 : decode cX9_part 7 = .ok (.ifCond .lt 13, 3) := by decide +kernel
theorem dX9_part_10 : decode cX9_part 10 = .ok (.iload_n 1, 1) := by decide +kernel
theorem dX9_part_11 : decode cX9_part 11 = .ok (.bipush 8, 2) := by decide +kernel
theorem dX9_part_13 : decode cX9_part 13 = .ok (.if_icmp .ge 7, 3) := by decide +kernel
theorem dX9_part_16 : decode cX9_part 16 = .ok (.iconst 1, 1) := by decide +kernel
theorem dX9_part_17 : decode cX9_part 17 = .ok (.goto 4, 3) := by decide +kernel
theorem dX9_part_20 : decode cX9_part 20 = .ok (.iconst 0, 1) := by decide +kernel
theorem dX9_part_21 : decode cX9_part 21 = .ok (.iconst 1, 1) := by decide +kernel
theorem dX9_part_22 : decode cX9_part 22 = .ok (.invokevirtual 151, 3) := by decide +kernel
theorem dX9_part_25 : decode cX9_part 25 = .ok (.ifCond .eq 13, 3) := by decide +kernel
theorem dX9_part_28 : decode cX9_part 28 = .ok (.aload_n 0, 1) := by decide +kernel
theorem dX9_part_29 : decode cX9_part 29 = .ok (.iload_n 2, 1) := by decide +kernel
theorem dX9_part_30 : decode cX9_part 30 = .ok (.iload_n 3, 1) := by decide +kernel
theorem dX9_part_31 : decode cX9_part 31 = .ok (.iconst 2, 1) := by decide +kernel
theorem dX9_part_32 : decode cX9_part 32 = .ok (.invokevirtual 158, 3) := by decide +kernel
theorem dX9_part_35 : decode cX9_part 35 = .ok (.ifCond .ne 5, 3) := by decide +kernel
theorem dX9_part_38 : decode cX9_part 38 = .ok (.iconst 0, 1) := by decide +kernel
theorem dX9_part_39 : decode cX9_part 39 = .ok (.ireturn, 1) := by decide +kernel
theorem dX9_part_40 : decode cX9_part 40 = .ok (.bipush 16, 2) := by decide +kernel
theorem dX9_part_42 : decode cX9_part 42 = .ok (.iload_n 2, 1) := by decide +kernel
theorem dX9_part_43 : decode cX9_part 43 = .ok (.imul, 1) := by decide +kernel
theorem dX9_part_44 : decode cX9_part 44 = .ok (.iload_n 3, 1) := by decide +kernel
theorem dX9_part_45 : decode cX9_part 45 = .ok (.iadd, 1) := by decide +kernel
theorem dX9_part_46 : decode cX9_part 46 = .ok (.istore 4, 2) := by decide +kernel
theorem dX9_part_48 : decode cX9_part 48 = .ok (.aload_n 0, 1) := by decide +kernel
theorem dX9_part_49 : decode cX9_part 49 = .ok (.getfield 17, 3) := by decide +kernel
theorem dX9_part_52 : decode cX9_part 52 = .ok (.iload 4, 2) := by decide +kernel
theorem dX9_part_54 : decode cX9_part 54 = .ok (.iaload, 1) := by decide +kernel
theorem dX9_part_55 : decode cX9_part 55 = .ok (.istore 5, 2) := by decide +kernel
theorem dX9_part_57 : decode cX9_part 57 = .ok (.iload 5, 2) := by decide +kernel
theorem dX9_part_59 : decode cX9_part 59 = .ok (.iconst (-1), 1) := by decide +kernel
theorem dX9_part_60 : decode cX9_part 60 = .ok (.if_icmp .ne 5, 3) := by decide +kernel
theorem dX9_part_63 : decode cX9_part 63 = .ok (.iconst (-1), 1) := by decide +kernel
theorem dX9_part_64 : decode cX9_part 64 = .ok (.ireturn, 1) := by decide +kernel
theorem dX9_part_65 : decode cX9_part 65 = .ok (.iload 5, 2) := by decide +kernel
theorem dX9_part_67 : decode cX9_part 67 = .ok (.bipush 7, 2) := by decide +kernel
theorem dX9_part_69 : decode cX9_part 69 = .ok (.if_icmp .ge 6, 3) := by decide +kernel
theorem dX9_part_72 : decode cX9_part 72 = .ok (.bipush (-2), 2) := by decide +kernel
theorem dX9_part_74 : decode cX9_part 74 = .ok (.ireturn, 1) := by decide +kernel
theorem dX9_part_75 : decode cX9_part 75 = .ok (.iconst 0, 1) := by decide +kernel
theorem dX9_part_76 : decode cX9_part 76 = .ok (.istore 6, 2) := by decide +kernel
theorem dX9_part_78 : decode cX9_part 78 = .ok (.iload 6, 2) := by decide +kernel
theorem dX9_part_80 : decode cX9_part 80 = .ok (.bipush 8, 2) := by decide +kernel
theorem dX9_part_82 : decode cX9_part 82 = .ok (.if_icmp .ge 66, 3) := by decide +kernel
theorem dX9_part_85 : decode cX9_part 85 = .ok (.iload 6, 2) := by decide +kernel
theorem dX9_part_87 : decode cX9_part 87 = .ok (.iload 5, 2) := by decide +kernel
theorem dX9_part_89 : decode cX9_part 89 = .ok (.if_icmp .ge 59, 3) := by decide +kernel
theorem dX9_part_92 : decode cX9_part 92 = .ok (.aload_n 0, 1) := by decide +kernel
theorem dX9_part_93 : decode cX9_part 93 = .ok (.getfield 20, 3) := by decide +kernel
theorem dX9_part_96 : decode cX9_part 96 = .ok (.bipush 12, 2) := by decide +kernel
theorem dX9_part_98 : decode cX9_part 98 = .ok (.iload 4, 2) := by decide +kernel
theorem dX9_part_100 : decode cX9_part 100 = .ok (.imul, 1) := by decide +kernel
theorem dX9_part_101 : decode cX9_part 101 = .ok (.iload 6, 2) := by decide +kernel
theorem dX9_part_103 : decode cX9_part 103 = .ok (.iadd, 1) := by decide +kernel
theorem dX9_part_104 : decode cX9_part 104 = .ok (.laload, 1) := by decide +kernel
theorem dX9_part_105 : decode cX9_part 105 = .ok (.aload_n 0, 1) := by decide +kernel
theorem dX9_part_106 : decode cX9_part 106 = .ok (.iload 6, 2) := by decide +kernel
theorem dX9_part_108 : decode cX9_part 108 = .ok (.invokevirtual 233, 3) := by decide +kernel
theorem dX9_part_111 : decode cX9_part 111 = .ok (.lcmp, 1) := by decide +kernel
theorem dX9_part_112 : decode cX9_part 112 = .ok (.ifCond .lt 27, 3) := by decide +kernel
theorem dX9_part_115 : decode cX9_part 115 = .ok (.aload_n 0, 1) := by decide +kernel
theorem dX9_part_116 : decode cX9_part 116 = .ok (.getfield 20, 3) := by decide +kernel
theorem dX9_part_119 : decode cX9_part 119 = .ok (.bipush 12, 2) := by decide +kernel
theorem dX9_part_121 : decode cX9_part 121 = .ok (.iload 4, 2) := by decide +kernel
theorem dX9_part_123 : decode cX9_part 123 = .ok (.imul, 1) := by decide +kernel
theorem dX9_part_124 : decode cX9_part 124 = .ok (.iload 6, 2) := by decide +kernel
theorem dX9_part_126 : decode cX9_part 126 = .ok (.iadd, 1) := by decide +kernel
theorem dX9_part_127 : decode cX9_part 127 = .ok (.laload, 1) := by decide +kernel
theorem dX9_part_128 : decode cX9_part 128 = .ok (.aload_n 0, 1) := by decide +kernel
theorem dX9_part_129 : decode cX9_part 129 = .ok (.iload 6, 2) := by decide +kernel
theorem dX9_part_131 : decode cX9_part 131 = .ok (.iload_n 1, 1) := by decide +kernel
theorem dX9_part_132 : decode cX9_part 132 = .ok (.invokevirtual 237, 3) := by decide +kernel
theorem dX9_part_135 : decode cX9_part 135 = .ok (.lcmp, 1) := by decide +kernel
theorem dX9_part_136 : decode cX9_part 136 = .ok (.ifCond .le 6, 3) := by decide +kernel
theorem dX9_part_139 : decode cX9_part 139 = .ok (.bipush (-3), 2) := by decide +kernel
theorem dX9_part_141 : decode cX9_part 141 = .ok (.ireturn, 1) := by decide +kernel
theorem dX9_part_142 : decode cX9_part 142 = .ok (.iinc 6 1, 3) := by decide +kernel
theorem dX9_part_145 : decode cX9_part 145 = .ok (.goto (-67), 3) := by decide +kernel
theorem dX9_part_148 : decode cX9_part 148 = .ok (.aload_n 0, 1) := by decide +kernel
theorem dX9_part_149 : decode cX9_part 149 = .ok (.getfield 20, 3) := by decide +kernel
theorem dX9_part_152 : decode cX9_part 152 = .ok (.bipush 12, 2) := by decide +kernel
theorem dX9_part_154 : decode cX9_part 154 = .ok (.iload 4, 2) := by decide +kernel
theorem dX9_part_156 : decode cX9_part 156 = .ok (.imul, 1) := by decide +kernel
theorem dX9_part_157 : decode cX9_part 157 = .ok (.laload, 1) := by decide +kernel
theorem dX9_part_158 : decode cX9_part 158 = .ok (.l2i, 1) := by decide +kernel
theorem dX9_part_159 : decode cX9_part 159 = .ok (.istore 6, 2) := by decide +kernel
theorem dX9_part_161 : decode cX9_part 161 = .ok (.aload_n 0, 1) := by decide +kernel
theorem dX9_part_162 : decode cX9_part 162 = .ok (.getfield 20, 3) := by decide +kernel
theorem dX9_part_165 : decode cX9_part 165 = .ok (.bipush 12, 2) := by decide +kernel
theorem dX9_part_167 : decode cX9_part 167 = .ok (.iload 4, 2) := by decide +kernel
theorem dX9_part_169 : decode cX9_part 169 = .ok (.imul, 1) := by decide +kernel
theorem dX9_part_170 : decode cX9_part 170 = .ok (.iconst 2, 1) := by decide +kernel
theorem dX9_part_171 : decode cX9_part 171 = .ok (.iadd, 1) := by decide +kernel
theorem dX9_part_172 : decode cX9_part 172 = .ok (.laload, 1) := by decide +kernel
theorem dX9_part_173 : decode cX9_part 173 = .ok (.l2i, 1) := by decide +kernel
theorem dX9_part_174 : decode cX9_part 174 = .ok (.istore 7, 2) := by decide +kernel
theorem dX9_part_176 : decode cX9_part 176 = .ok (.iconst 0, 1) := by decide +kernel
theorem dX9_part_177 : decode cX9_part 177 = .ok (.istore 8, 2) := by decide +kernel
theorem dX9_part_179 : decode cX9_part 179 = .ok (.iconst 0, 1) := by decide +kernel
theorem dX9_part_180 : decode cX9_part 180 = .ok (.istore 9, 2) := by decide +kernel
theorem dX9_part_182 : decode cX9_part 182 = .ok (.iload 9, 2) := by decide +kernel
theorem dX9_part_184 : decode cX9_part 184 = .ok (.aload_n 0, 1) := by decide +kernel
theorem dX9_part_185 : decode cX9_part 185 = .ok (.getfield 46, 3) := by decide +kernel
theorem dX9_part_188 : decode cX9_part 188 = .ok (.iload_n 1, 1) := by decide +kernel
theorem dX9_part_189 : decode cX9_part 189 = .ok (.iaload, 1) := by decide +kernel
theorem dX9_part_190 : decode cX9_part 190 = .ok (.if_icmp .ge 43, 3) := by decide +kernel
theorem dX9_part_193 : decode cX9_part 193 = .ok (.iload 8, 2) := by decide +kernel
theorem dX9_part_195 : decode cX9_part 195 = .ok (.ifCond .ne 25, 3) := by decide +kernel
theorem dX9_part_198 : decode cX9_part 198 = .ok (.iload 6, 2) := by decide +kernel
theorem dX9_part_200 : decode cX9_part 200 = .ok (.iconst 5, 1) := by decide +kernel
theorem dX9_part_201 : decode cX9_part 201 = .ok (.if_icmp .ne 23, 3) := by decide +kernel
theorem dX9_part_204 : decode cX9_part 204 = .ok (.aload_n 0, 1) := by decide +kernel
theorem dX9_part_205 : decode cX9_part 205 = .ok (.getfield 49, 3) := by decide +kernel
theorem dX9_part_208 : decode cX9_part 208 = .ok (.bipush 24, 2) := by decide +kernel
theorem dX9_part_210 : decode cX9_part 210 = .ok (.iload_n 1, 1) := by decide +kernel
theorem dX9_part_211 : decode cX9_part 211 = .ok (.imul, 1) := by decide +kernel
theorem dX9_part_212 : decode cX9_part 212 = .ok (.iload 9, 2) := by decide +kernel
theorem dX9_part_214 : decode cX9_part 214 = .ok (.iadd, 1) := by decide +kernel
theorem dX9_part_215 : decode cX9_part 215 = .ok (.iaload, 1) := by decide +kernel
theorem dX9_part_216 : decode cX9_part 216 = .ok (.iconst 5, 1) := by decide +kernel
theorem dX9_part_217 : decode cX9_part 217 = .ok (.if_icmp .ne 7, 3) := by decide +kernel
theorem dX9_part_220 : decode cX9_part 220 = .ok (.iconst 1, 1) := by decide +kernel
theorem dX9_part_221 : decode cX9_part 221 = .ok (.goto 4, 3) := by decide +kernel
theorem dX9_part_224 : decode cX9_part 224 = .ok (.iconst 0, 1) := by decide +kernel
theorem dX9_part_225 : decode cX9_part 225 = .ok (.istore 8, 2) := by decide +kernel
theorem dX9_part_227 : decode cX9_part 227 = .ok (.iinc 9 1, 3) := by decide +kernel
theorem dX9_part_230 : decode cX9_part 230 = .ok (.goto (-48), 3) := by decide +kernel
theorem dX9_part_233 : decode cX9_part 233 = .ok (.iload 8, 2) := by decide +kernel
theorem dX9_part_235 : decode cX9_part 235 = .ok (.ifCond .ne 25, 3) := by decide +kernel
theorem dX9_part_238 : decode cX9_part 238 = .ok (.iload 7, 2) := by decide +kernel
theorem dX9_part_240 : decode cX9_part 240 = .ok (.iconst (-1), 1) := by decide +kernel
theorem dX9_part_241 : decode cX9_part 241 = .ok (.if_icmp .eq 22, 3) := by decide +kernel
theorem dX9_part_244 : decode cX9_part 244 = .ok (.aload_n 0, 1) := by decide +kernel
theorem dX9_part_245 : decode cX9_part 245 = .ok (.getfield 49, 3) := by decide +kernel
theorem dX9_part_248 : decode cX9_part 248 = .ok (.bipush 24, 2) := by decide +kernel
theorem dX9_part_250 : decode cX9_part 250 = .ok (.iload_n 1, 1) := by decide +kernel
theorem dX9_part_251 : decode cX9_part 251 = .ok (.imul, 1) := by decide +kernel
theorem dX9_part_252 : decode cX9_part 252 = .ok (.iload 7, 2) := by decide +kernel
theorem dX9_part_254 : decode cX9_part 254 = .ok (.iadd, 1) := by decide +kernel
theorem dX9_part_255 : decode cX9_part 255 = .ok (.iaload, 1) := by decide +kernel
theorem dX9_part_256 : decode cX9_part 256 = .ok (.iconst 5, 1) := by decide +kernel
theorem dX9_part_257 : decode cX9_part 257 = .ok (.if_icmp .ne 6, 3) := by decide +kernel
theorem dX9_part_260 : decode cX9_part 260 = .ok (.bipush (-4), 2) := by decide +kernel
theorem dX9_part_262 : decode cX9_part 262 = .ok (.ireturn, 1) := by decide +kernel
theorem dX9_part_263 : decode cX9_part 263 = .ok (.aload_n 0, 1) := by decide +kernel
theorem dX9_part_264 : decode cX9_part 264 = .ok (.getfield 46, 3) := by decide +kernel
theorem dX9_part_267 : decode cX9_part 267 = .ok (.iload_n 1, 1) := by decide +kernel
theorem dX9_part_268 : decode cX9_part 268 = .ok (.iaload, 1) := by decide +kernel
theorem dX9_part_269 : decode cX9_part 269 = .ok (.bipush 24, 2) := by decide +kernel
theorem dX9_part_271 : decode cX9_part 271 = .ok (.if_icmp .ne 6, 3) := by decide +kernel
theorem dX9_part_274 : decode cX9_part 274 = .ok (.bipush (-5), 2) := by decide +kernel
theorem dX9_part_276 : decode cX9_part 276 = .ok (.ireturn, 1) := by decide +kernel
theorem dX9_part_277 : decode cX9_part 277 = .ok (.bipush 24, 2) := by decide +kernel
theorem dX9_part_279 : decode cX9_part 279 = .ok (.iload_n 1, 1) := by decide +kernel
theorem dX9_part_280 : decode cX9_part 280 = .ok (.imul, 1) := by decide +kernel
theorem dX9_part_281 : decode cX9_part 281 = .ok (.aload_n 0, 1) := by decide +kernel
theorem dX9_part_282 : decode cX9_part 282 = .ok (.getfield 46, 3) := by decide +kernel
theorem dX9_part_285 : decode cX9_part 285 = .ok (.iload_n 1, 1) := by decide +kernel
theorem dX9_part_286 : decode cX9_part 286 = .ok (.iaload, 1) := by decide +kernel
theorem dX9_part_287 : decode cX9_part 287 = .ok (.iadd, 1) := by decide +kernel
theorem dX9_part_288 : decode cX9_part 288 = .ok (.istore 9, 2) := by decide +kernel
theorem dX9_part_290 : decode cX9_part 290 = .ok (.aload_n 0, 1) := by decide +kernel
theorem dX9_part_291 : decode cX9_part 291 = .ok (.getfield 49, 3) := by decide +kernel
theorem dX9_part_294 : decode cX9_part 294 = .ok (.iload 9, 2) := by decide +kernel
theorem dX9_part_296 : decode cX9_part 296 = .ok (.iload 6, 2) := by decide +kernel
theorem dX9_part_298 : decode cX9_part 298 = .ok (.iastore, 1) := by decide +kernel
theorem dX9_part_299 : decode cX9_part 299 = .ok (.aload_n 0, 1) := by decide +kernel
theorem dX9_part_300 : decode cX9_part 300 = .ok (.getfield 52, 3) := by decide +kernel
theorem dX9_part_303 : decode cX9_part 303 = .ok (.iload 9, 2) := by decide +kernel
theorem dX9_part_305 : decode cX9_part 305 = .ok (.aload_n 0, 1) := by decide +kernel
theorem dX9_part_306 : decode cX9_part 306 = .ok (.getfield 20, 3) := by decide +kernel
theorem dX9_part_309 : decode cX9_part 309 = .ok (.bipush 12, 2) := by decide +kernel
theorem dX9_part_311 : decode cX9_part 311 = .ok (.iload 4, 2) := by decide +kernel
theorem dX9_part_313 : decode cX9_part 313 = .ok (.imul, 1) := by decide +kernel
theorem dX9_part_314 : decode cX9_part 314 = .ok (.iconst 1, 1) := by decide +kernel
theorem dX9_part_315 : decode cX9_part 315 = .ok (.iadd, 1) := by decide +kernel
theorem dX9_part_316 : decode cX9_part 316 = .ok (.laload, 1) := by decide +kernel
theorem dX9_part_317 : decode cX9_part 317 = .ok (.l2i, 1) := by decide +kernel
theorem dX9_part_318 : decode cX9_part 318 = .ok (.iastore, 1) := by decide +kernel
theorem dX9_part_319 : decode cX9_part 319 = .ok (.aload_n 0, 1) := by decide +kernel
theorem dX9_part_320 : decode cX9_part 320 = .ok (.getfield 55, 3) := by decide +kernel
theorem dX9_part_323 : decode cX9_part 323 = .ok (.iload 9, 2) := by decide +kernel
theorem dX9_part_325 : decode cX9_part 325 = .ok (.iload 7, 2) := by decide +kernel
theorem dX9_part_327 : decode cX9_part 327 = .ok (.iastore, 1) := by decide +kernel
theorem dX9_part_328 : decode cX9_part 328 = .ok (.aload_n 0, 1) := by decide +kernel
theorem dX9_part_329 : decode cX9_part 329 = .ok (.getfield 58, 3) := by decide +kernel
theorem dX9_part_332 : decode cX9_part 332 = .ok (.iload 9, 2) := by decide +kernel
theorem dX9_part_334 : decode cX9_part 334 = .ok (.aload_n 0, 1) := by decide +kernel
theorem dX9_part_335 : decode cX9_part 335 = .ok (.getfield 20, 3) := by decide +kernel
theorem dX9_part_338 : decode cX9_part 338 = .ok (.bipush 12, 2) := by decide +kernel
theorem dX9_part_340 : decode cX9_part 340 = .ok (.iload 4, 2) := by decide +kernel
theorem dX9_part_342 : decode cX9_part 342 = .ok (.imul, 1) := by decide +kernel
theorem dX9_part_343 : decode cX9_part 343 = .ok (.iconst 3, 1) := by decide +kernel
theorem dX9_part_344 : decode cX9_part 344 = .ok (.iadd, 1) := by decide +kernel
theorem dX9_part_345 : decode cX9_part 345 = .ok (.laload, 1) := by decide +kernel
theorem dX9_part_346 : decode cX9_part 346 = .ok (.l2i, 1) := by decide +kernel
theorem dX9_part_347 : decode cX9_part 347 = .ok (.iastore, 1) := by decide +kernel
theorem dX9_part_348 : decode cX9_part 348 = .ok (.aload_n 0, 1) := by decide +kernel
theorem dX9_part_349 : decode cX9_part 349 = .ok (.getfield 61, 3) := by decide +kernel
theorem dX9_part_352 : decode cX9_part 352 = .ok (.iload 9, 2) := by decide +kernel
theorem dX9_part_354 : decode cX9_part 354 = .ok (.aload_n 0, 1) := by decide +kernel
theorem dX9_part_355 : decode cX9_part 355 = .ok (.getfield 20, 3) := by decide +kernel
theorem dX9_part_358 : decode cX9_part 358 = .ok (.bipush 12, 2) := by decide +kernel
theorem dX9_part_360 : decode cX9_part 360 = .ok (.iload 4, 2) := by decide +kernel
theorem dX9_part_362 : decode cX9_part 362 = .ok (.imul, 1) := by decide +kernel
theorem dX9_part_363 : decode cX9_part 363 = .ok (.iconst 4, 1) := by decide +kernel
theorem dX9_part_364 : decode cX9_part 364 = .ok (.iadd, 1) := by decide +kernel
theorem dX9_part_365 : decode cX9_part 365 = .ok (.laload, 1) := by decide +kernel
theorem dX9_part_366 : decode cX9_part 366 = .ok (.l2i, 1) := by decide +kernel
theorem dX9_part_367 : decode cX9_part 367 = .ok (.iastore, 1) := by decide +kernel
theorem dX9_part_368 : decode cX9_part 368 = .ok (.aload_n 0, 1) := by decide +kernel
theorem dX9_part_369 : decode cX9_part 369 = .ok (.getfield 64, 3) := by decide +kernel
theorem dX9_part_372 : decode cX9_part 372 = .ok (.iload 9, 2) := by decide +kernel
theorem dX9_part_374 : decode cX9_part 374 = .ok (.aload_n 0, 1) := by decide +kernel
theorem dX9_part_375 : decode cX9_part 375 = .ok (.getfield 20, 3) := by decide +kernel
theorem dX9_part_378 : decode cX9_part 378 = .ok (.bipush 12, 2) := by decide +kernel
theorem dX9_part_380 : decode cX9_part 380 = .ok (.iload 4, 2) := by decide +kernel
theorem dX9_part_382 : decode cX9_part 382 = .ok (.imul, 1) := by decide +kernel
theorem dX9_part_383 : decode cX9_part 383 = .ok (.iconst 5, 1) := by decide +kernel
theorem dX9_part_384 : decode cX9_part 384 = .ok (.iadd, 1) := by decide +kernel
theorem dX9_part_385 : decode cX9_part 385 = .ok (.laload, 1) := by decide +kernel
theorem dX9_part_386 : decode cX9_part 386 = .ok (.l2i, 1) := by decide +kernel
theorem dX9_part_387 : decode cX9_part 387 = .ok (.iastore, 1) := by decide +kernel
theorem dX9_part_388 : decode cX9_part 388 = .ok (.aload_n 0, 1) := by decide +kernel
theorem dX9_part_389 : decode cX9_part 389 = .ok (.getfield 67, 3) := by decide +kernel
theorem dX9_part_392 : decode cX9_part 392 = .ok (.iload 9, 2) := by decide +kernel
theorem dX9_part_394 : decode cX9_part 394 = .ok (.aload_n 0, 1) := by decide +kernel
theorem dX9_part_395 : decode cX9_part 395 = .ok (.getfield 20, 3) := by decide +kernel
theorem dX9_part_398 : decode cX9_part 398 = .ok (.bipush 12, 2) := by decide +kernel
theorem dX9_part_400 : decode cX9_part 400 = .ok (.iload 4, 2) := by decide +kernel
theorem dX9_part_402 : decode cX9_part 402 = .ok (.imul, 1) := by decide +kernel
theorem dX9_part_403 : decode cX9_part 403 = .ok (.bipush 6, 2) := by decide +kernel
theorem dX9_part_405 : decode cX9_part 405 = .ok (.iadd, 1) := by decide +kernel
theorem dX9_part_406 : decode cX9_part 406 = .ok (.laload, 1) := by decide +kernel
theorem dX9_part_407 : decode cX9_part 407 = .ok (.l2i, 1) := by decide +kernel
theorem dX9_part_408 : decode cX9_part 408 = .ok (.iastore, 1) := by decide +kernel
theorem dX9_part_409 : decode cX9_part 409 = .ok (.aload_n 0, 1) := by decide +kernel
theorem dX9_part_410 : decode cX9_part 410 = .ok (.getfield 70, 3) := by decide +kernel
theorem dX9_part_413 : decode cX9_part 413 = .ok (.iload 9, 2) := by decide +kernel
theorem dX9_part_415 : decode cX9_part 415 = .ok (.iload 5, 2) := by decide +kernel
theorem dX9_part_417 : decode cX9_part 417 = .ok (.bipush 7, 2) := by decide +kernel
theorem dX9_part_419 : decode cX9_part 419 = .ok (.if_icmp .le 20, 3) := by decide +kernel
theorem dX9_part_422 : decode cX9_part 422 = .ok (.aload_n 0, 1) := by decide +kernel
theorem dX9_part_423 : decode cX9_part 423 = .ok (.getfield 20, 3) := by decide +kernel
theorem dX9_part_426 : decode cX9_part 426 = .ok (.bipush 12, 2) := by decide +kernel
theorem dX9_part_428 : decode cX9_part 428 = .ok (.iload 4, 2) := by decide +kernel
theorem dX9_part_430 : decode cX9_part 430 = .ok (.imul, 1) := by decide +kernel
theorem dX9_part_431 : decode cX9_part 431 = .ok (.bipush 7, 2) := by decide +kernel
theorem dX9_part_433 : decode cX9_part 433 = .ok (.iadd, 1) := by decide +kernel
theorem dX9_part_434 : decode cX9_part 434 = .ok (.laload, 1) := by decide +kernel
theorem dX9_part_435 : decode cX9_part 435 = .ok (.l2i, 1) := by decide +kernel
theorem dX9_part_436 : decode cX9_part 436 = .ok (.goto 4, 3) := by decide +kernel
theorem dX9_part_439 : decode cX9_part 439 = .ok (.iconst (-1), 1) := by decide +kernel
theorem dX9_part_440 : decode cX9_part 440 = .ok (.iastore, 1) := by decide +kernel
theorem dX9_part_441 : decode cX9_part 441 = .ok (.aload_n 0, 1) := by decide +kernel
theorem dX9_part_442 : decode cX9_part 442 = .ok (.getfield 46, 3) := by decide +kernel
theorem dX9_part_445 : decode cX9_part 445 = .ok (.iload_n 1, 1) := by decide +kernel
theorem dX9_part_446 : decode cX9_part 446 = .ok (.dup2, 1) := by decide +kernel
theorem dX9_part_447 : decode cX9_part 447 = .ok (.iaload, 1) := by decide +kernel
theorem dX9_part_448 : decode cX9_part 448 = .ok (.iconst 1, 1) := by decide +kernel
theorem dX9_part_449 : decode cX9_part 449 = .ok (.iadd, 1) := by decide +kernel
theorem dX9_part_450 : decode cX9_part 450 = .ok (.iastore, 1) := by decide +kernel
theorem dX9_part_451 : decode cX9_part 451 = .ok (.aload_n 0, 1) := by decide +kernel
theorem dX9_part_452 : decode cX9_part 452 = .ok (.getfield 46, 3) := by decide +kernel
theorem dX9_part_455 : decode cX9_part 455 = .ok (.iload_n 1, 1) := by decide +kernel
theorem dX9_part_456 : decode cX9_part 456 = .ok (.iaload, 1) := by decide +kernel
theorem dX9_part_457 : decode cX9_part 457 = .ok (.iconst 1, 1) := by decide +kernel
theorem dX9_part_458 : decode cX9_part 458 = .ok (.isub, 1) := by decide +kernel
theorem dX9_part_459 : decode cX9_part 459 = .ok (.ireturn, 1) := by decide +kernel
theorem dX9_told_0 : decode cX9_told 0 = .ok (.aload_n 0, 1) := by decide +kernel
theorem dX9_told_1 : decode cX9_told 1 = .ok (.iconst 0, 1) := by decide +kernel
theorem dX9_told_2 : decode cX9_told 2 = .ok (.putfield 1, 3) := by decide +kernel
theorem dX9_told_5 : decode cX9_told 5 = .ok (.aload_n 0, 1) := by decide +kernel
theorem dX9_told_6 : decode cX9_told 6 = .ok (.iload_n 1, 1) := by decide +kernel
theorem dX9_told_7 : decode cX9_told 7 = .ok (.ifCond .lt 17, 3) := by decide +kernel
theorem dX9_told_10 : decode cX9_told 10 = .ok (.iload_n 1, 1) := by decide +kernel
theorem dX9_told_11 : decode cX9_told 11 = .ok (.bipush 8, 2) := by decide +kernel
theorem dX9_told_13 : decode cX9_told 13 = .ok (.if_icmp .ge 11, 3) := by decide +kernel
theorem dX9_told_16 : decode cX9_told 16 = .ok (.iload_n 2, 1) := by decide +kernel
theorem dX9_told_17 : decode cX9_told 17 = .ok (.ifCond .lt 7, 3) := by decide +kernel
theorem dX9_told_20 : decode cX9_told 20 = .ok (.iconst 1, 1) := by decide +kernel
theorem dX9_told_21 : decode cX9_told 21 = .ok (.goto 4, 3) := by decide +kernel
theorem dX9_told_24 : decode cX9_told 24 = .ok (.iconst 0, 1) := by decide +kernel
theorem dX9_told_25 : decode cX9_told 25 = .ok (.iconst 1, 1) := by decide +kernel
theorem dX9_told_26 : decode cX9_told 26 = .ok (.invokevirtual 151, 3) := by decide +kernel
theorem dX9_told_29 : decode cX9_told 29 = .ok (.ifCond .eq 49, 3) := by decide +kernel
theorem dX9_told_32 : decode cX9_told 32 = .ok (.aload_n 0, 1) := by decide +kernel
theorem dX9_told_33 : decode cX9_told 33 = .ok (.iload_n 2, 1) := by decide +kernel
theorem dX9_told_34 : decode cX9_told 34 = .ok (.aload_n 0, 1) := by decide +kernel
theorem dX9_told_35 : decode cX9_told 35 = .ok (.getfield 46, 3) := by decide +kernel
theorem dX9_told_38 : decode cX9_told 38 = .ok (.iload_n 1, 1) := by decide +kernel
theorem dX9_told_39 : decode cX9_told 39 = .ok (.iaload, 1) := by decide +kernel
theorem dX9_told_40 : decode cX9_told 40 = .ok (.if_icmp .ge 7, 3) := by decide +kernel
theorem dX9_told_43 : decode cX9_told 43 = .ok (.iconst 1, 1) := by decide +kernel
theorem dX9_told_44 : decode cX9_told 44 = .ok (.goto 4, 3) := by decide +kernel
theorem dX9_told_47 : decode cX9_told 47 = .ok (.iconst 0, 1) := by decide +kernel
theorem dX9_told_48 : decode cX9_told 48 = .ok (.iconst 1, 1) := by decide +kernel
theorem dX9_told_49 : decode cX9_told 49 = .ok (.invokevirtual 151, 3) := by decide +kernel
theorem dX9_told_52 : decode cX9_told 52 = .ok (.ifCond .eq 26, 3) := by decide +kernel
theorem dX9_told_55 : decode cX9_told 55 = .ok (.aload_n 0, 1) := by decide +kernel
theorem dX9_told_56 : decode cX9_told 56 = .ok (.iload_n 3, 1) := by decide +kernel
theorem dX9_told_57 : decode cX9_told 57 = .ok (.ifCond .lt 13, 3) := by decide +kernel
theorem dX9_told_60 : decode cX9_told 60 = .ok (.iload_n 3, 1) := by decide +kernel
theorem dX9_told_61 : decode cX9_told 61 = .ok (.bipush 7, 2) := by decide +kernel
theorem dX9_told_63 : decode cX9_told 63 = .ok (.if_icmp .gt 7, 3) := by decide +kernel
theorem dX9_told_66 : decode cX9_told 66 = .ok (.iconst 1, 1) := by decide +kernel
theorem dX9_told_67 : decode cX9_told 67 = .ok (.goto 4, 3) := by decide +kernel
theorem dX9_told_70 : decode cX9_told 70 = .ok (.iconst 0, 1) := by decide +kernel
theorem dX9_told_71 : decode cX9_told 71 = .ok (.iconst 2, 1) := by decide +kernel
theorem dX9_told_72 : decode cX9_told 72 = .ok (.invokevirtual 151, 3) := by decide +kernel
theorem dX9_told_75 : decode cX9_told 75 = .ok (.ifCond .ne 5, 3) := by decide +kernel
theorem dX9_told_78 : decode cX9_told 78 = .ok (.iconst 0, 1) := by decide +kernel
theorem dX9_told_79 : decode cX9_told 79 = .ok (.ireturn, 1) := by decide +kernel
theorem dX9_told_80 : decode cX9_told 80 = .ok (.bipush 24, 2) := by decide +kernel
theorem dX9_told_82 : decode cX9_told 82 = .ok (.iload_n 1, 1) := by decide +kernel
theorem dX9_told_83 : decode cX9_told 83 = .ok (.imul, 1) := by decide +kernel
theorem dX9_told_84 : decode cX9_told 84 = .ok (.iload_n 2, 1) := by decide +kernel
theorem dX9_told_85 : decode cX9_told 85 = .ok (.iadd, 1) := by decide +kernel
theorem dX9_told_86 : decode cX9_told 86 = .ok (.istore 4, 2) := by decide +kernel
theorem dX9_told_88 : decode cX9_told 88 = .ok (.iload_n 3, 1) := by decide +kernel
theorem dX9_told_89 : decode cX9_told 89 = .ok (.tableswitch 99 0 6 #[43, 51, 59, 67, 75, 83, 91], 43) := by decide +kernel
theorem dX9_told_132 : decode cX9_told 132 = .ok (.aload_n 0, 1) := by decide +kernel
theorem dX9_told_133 : decode cX9_told 133 = .ok (.getfield 49, 3) := by decide +kernel
theorem dX9_told_136 : decode cX9_told 136 = .ok (.iload 4, 2) := by decide +kernel
theorem dX9_told_138 : decode cX9_told 138 = .ok (.iaload, 1) := by decide +kernel
theorem dX9_told_139 : decode cX9_told 139 = .ok (.ireturn, 1) := by decide +kernel
theorem dX9_told_140 : decode cX9_told 140 = .ok (.aload_n 0, 1) := by decide +kernel
theorem dX9_told_141 : decode cX9_told 141 = .ok (.getfield 52, 3) := by decide +kernel
theorem dX9_told_144 : decode cX9_told 144 = .ok (.iload 4, 2) := by decide +kernel
theorem dX9_told_146 : decode cX9_told 146 = .ok (.iaload, 1) := by decide +kernel
theorem dX9_told_147 : decode cX9_told 147 = .ok (.ireturn, 1) := by decide +kernel
theorem dX9_told_148 : decode cX9_told 148 = .ok (.aload_n 0, 1) := by decide +kernel
theorem dX9_told_149 : decode cX9_told 149 = .ok (.getfield 55, 3) := by decide +kernel
theorem dX9_told_152 : decode cX9_told 152 = .ok (.iload 4, 2) := by decide +kernel
theorem dX9_told_154 : decode cX9_told 154 = .ok (.iaload, 1) := by decide +kernel
theorem dX9_told_155 : decode cX9_told 155 = .ok (.ireturn, 1) := by decide +kernel
theorem dX9_told_156 : decode cX9_told 156 = .ok (.aload_n 0, 1) := by decide +kernel
theorem dX9_told_157 : decode cX9_told 157 = .ok (.getfield 58, 3) := by decide +kernel
theorem dX9_told_160 : decode cX9_told 160 = .ok (.iload 4, 2) := by decide +kernel
theorem dX9_told_162 : decode cX9_told 162 = .ok (.iaload, 1) := by decide +kernel
theorem dX9_told_163 : decode cX9_told 163 = .ok (.ireturn, 1) := by decide +kernel
theorem dX9_told_164 : decode cX9_told 164 = .ok (.aload_n 0, 1) := by decide +kernel
theorem dX9_told_165 : decode cX9_told 165 = .ok (.getfield 61, 3) := by decide +kernel
theorem dX9_told_168 : decode cX9_told 168 = .ok (.iload 4, 2) := by decide +kernel
theorem dX9_told_170 : decode cX9_told 170 = .ok (.iaload, 1) := by decide +kernel
theorem dX9_told_171 : decode cX9_told 171 = .ok (.ireturn, 1) := by decide +kernel
theorem dX9_told_172 : decode cX9_told 172 = .ok (.aload_n 0, 1) := by decide +kernel
theorem dX9_told_173 : decode cX9_told 173 = .ok (.getfield 64, 3) := by decide +kernel
theorem dX9_told_176 : decode cX9_told 176 = .ok (.iload 4, 2) := by decide +kernel
theorem dX9_told_178 : decode cX9_told 178 = .ok (.iaload, 1) := by decide +kernel
theorem dX9_told_179 : decode cX9_told 179 = .ok (.ireturn, 1) := by decide +kernel
theorem dX9_told_180 : decode cX9_told 180 = .ok (.aload_n 0, 1) := by decide +kernel
theorem dX9_told_181 : decode cX9_told 181 = .ok (.getfield 67, 3) := by decide +kernel
theorem dX9_told_184 : decode cX9_told 184 = .ok (.iload 4, 2) := by decide +kernel
theorem dX9_told_186 : decode cX9_told 186 = .ok (.iaload, 1) := by decide +kernel
theorem dX9_told_187 : decode cX9_told 187 = .ok (.ireturn, 1) := by decide +kernel
theorem dX9_told_188 : decode cX9_told 188 = .ok (.aload_n 0, 1) := by decide +kernel
theorem dX9_told_189 : decode cX9_told 189 = .ok (.getfield 70, 3) := by decide +kernel
theorem dX9_told_192 : decode cX9_told 192 = .ok (.iload 4, 2) := by decide +kernel
theorem dX9_told_194 : decode cX9_told 194 = .ok (.iaload, 1) := by decide +kernel
theorem dX9_told_195 : decode cX9_told 195 = .ok (.ireturn, 1) := by decide +kernel
theorem dX9_acted_0 : decode cX9_acted 0 = .ok (.aload_n 0, 1) := by decide +kernel
theorem dX9_acted_1 : decode cX9_acted 1 = .ok (.getfield 241, 3) := by decide +kernel
theorem dX9_acted_4 : decode cX9_acted 4 = .ok (.bipush 10, 2) := by decide +kernel
theorem dX9_acted_6 : decode cX9_acted 6 = .ok (.if_icmp .ne 73, 3) := by decide +kernel
theorem dX9_acted_9 : decode cX9_acted 9 = .ok (.iconst 0, 1) := by decide +kernel
theorem dX9_acted_10 : decode cX9_acted 10 = .ok (.istore 4, 2) := by decide +kernel
theorem dX9_acted_12 : decode cX9_acted 12 = .ok (.iload 4, 2) := by decide +kernel
theorem dX9_acted_14 : decode cX9_acted 14 = .ok (.bipush 9, 2) := by decide +kernel
theorem dX9_acted_16 : decode cX9_acted 16 = .ok (.if_icmp .ge 57, 3) := by decide +kernel
theorem dX9_acted_19 : decode cX9_acted 19 = .ok (.aload_n 0, 1) := by decide +kernel
theorem dX9_acted_20 : decode cX9_acted 20 = .ok (.getfield 115, 3) := by decide +kernel
theorem dX9_acted_23 : decode cX9_acted 23 = .ok (.iload 4, 2) := by decide +kernel
theorem dX9_acted_25 : decode cX9_acted 25 = .ok (.aload_n 0, 1) := by decide +kernel
theorem dX9_acted_26 : decode cX9_acted 26 = .ok (.getfield 115, 3) := by decide +kernel
theorem dX9_acted_29 : decode cX9_acted 29 = .ok (.iload 4, 2) := by decide +kernel
theorem dX9_acted_31 : decode cX9_acted 31 = .ok (.iconst 1, 1) := by decide +kernel
theorem dX9_acted_32 : decode cX9_acted 32 = .ok (.iadd, 1) := by decide +kernel
theorem dX9_acted_33 : decode cX9_acted 33 = .ok (.iaload, 1) := by decide +kernel
theorem dX9_acted_34 : decode cX9_acted 34 = .ok (.iastore, 1) := by decide +kernel
theorem dX9_acted_35 : decode cX9_acted 35 = .ok (.aload_n 0, 1) := by decide +kernel
theorem dX9_acted_36 : decode cX9_acted 36 = .ok (.getfield 118, 3) := by decide +kernel
theorem dX9_acted_39 : decode cX9_acted 39 = .ok (.iload 4, 2) := by decide +kernel
theorem dX9_acted_41 : decode cX9_acted 41 = .ok (.aload_n 0, 1) := by decide +kernel
theorem dX9_acted_42 : decode cX9_acted 42 = .ok (.getfield 118, 3) := by decide +kernel
theorem dX9_acted_45 : decode cX9_acted 45 = .ok (.iload 4, 2) := by decide +kernel
theorem dX9_acted_47 : decode cX9_acted 47 = .ok (.iconst 1, 1) := by decide +kernel
theorem dX9_acted_48 : decode cX9_acted 48 = .ok (.iadd, 1) := by decide +kernel
theorem dX9_acted_49 : decode cX9_acted 49 = .ok (.iaload, 1) := by decide +kernel
theorem dX9_acted_50 : decode cX9_acted 50 = .ok (.iastore, 1) := by decide +kernel
theorem dX9_acted_51 : decode cX9_acted 51 = .ok (.aload_n 0, 1) := by decide +kernel
theorem dX9_acted_52 : decode cX9_acted 52 = .ok (.getfield 121, 3) := by decide +kernel
theorem dX9_acted_55 : decode cX9_acted 55 = .ok (.iload 4, 2) := by decide +kernel
theorem dX9_acted_57 : decode cX9_acted 57 = .ok (.aload_n 0, 1) := by decide +kernel
theorem dX9_acted_58 : decode cX9_acted 58 = .ok (.getfield 121, 3) := by decide +kernel
theorem dX9_acted_61 : decode cX9_acted 61 = .ok (.iload 4, 2) := by decide +kernel
theorem dX9_acted_63 : decode cX9_acted 63 = .ok (.iconst 1, 1) := by decide +kernel
theorem dX9_acted_64 : decode cX9_acted 64 = .ok (.iadd, 1) := by decide +kernel
theorem dX9_acted_65 : decode cX9_acted 65 = .ok (.iaload, 1) := by decide +kernel
theorem dX9_acted_66 : decode cX9_acted 66 = .ok (.iastore, 1) := by decide +kernel
theorem dX9_acted_67 : decode cX9_acted 67 = .ok (.iinc 4 1, 3) := by decide +kernel
theorem dX9_acted_70 : decode cX9_acted 70 = .ok (.goto (-58), 3) := by decide +kernel
theorem dX9_acted_73 : decode cX9_acted 73 = .ok (.aload_n 0, 1) := by decide +kernel
theorem dX9_acted_74 : decode cX9_acted 74 = .ok (.bipush 9, 2) := by decide +kernel
theorem dX9_acted_76 : decode cX9_acted 76 = .ok (.putfield 241, 3) := by decide +kernel
theorem dX9_acted_79 : decode cX9_acted 79 = .ok (.aload_n 0, 1) := by decide +kernel
theorem dX9_acted_80 : decode cX9_acted 80 = .ok (.getfield 115, 3) := by decide +kernel
theorem dX9_acted_83 : decode cX9_acted 83 = .ok (.aload_n 0, 1) := by decide +kernel
theorem dX9_acted_84 : decode cX9_acted 84 = .ok (.getfield 241, 3) := by decide +kernel
theorem dX9_acted_87 : decode cX9_acted 87 = .ok (.iload_n 1, 1) := by decide +kernel
theorem dX9_acted_88 : decode cX9_acted 88 = .ok (.iastore, 1) := by decide +kernel
theorem dX9_acted_89 : decode cX9_acted 89 = .ok (.aload_n 0, 1) := by decide +kernel
theorem dX9_acted_90 : decode cX9_acted 90 = .ok (.getfield 118, 3) := by decide +kernel
theorem dX9_acted_93 : decode cX9_acted 93 = .ok (.aload_n 0, 1) := by decide +kernel
theorem dX9_acted_94 : decode cX9_acted 94 = .ok (.getfield 241, 3) := by decide +kernel
theorem dX9_acted_97 : decode cX9_acted 97 = .ok (.iload_n 2, 1) := by decide +kernel
theorem dX9_acted_98 : decode cX9_acted 98 = .ok (.iastore, 1) := by decide +kernel
theorem dX9_acted_99 : decode cX9_acted 99 = .ok (.aload_n 0, 1) := by decide +kernel
theorem dX9_acted_100 : decode cX9_acted 100 = .ok (.getfield 121, 3) := by decide +kernel
theorem dX9_acted_103 : decode cX9_acted 103 = .ok (.aload_n 0, 1) := by decide +kernel
theorem dX9_acted_104 : decode cX9_acted 104 = .ok (.getfield 241, 3) := by decide +kernel
theorem dX9_acted_107 : decode cX9_acted 107 = .ok (.iload_n 3, 1) := by decide +kernel
theorem dX9_acted_108 : decode cX9_acted 108 = .ok (.iastore, 1) := by decide +kernel
theorem dX9_acted_109 : decode cX9_acted 109 = .ok (.aload_n 0, 1) := by decide +kernel
theorem dX9_acted_110 : decode cX9_acted 110 = .ok (.dup, 1) := by decide +kernel
theorem dX9_acted_111 : decode cX9_acted 111 = .ok (.getfield 241, 3) := by decide +kernel
theorem dX9_acted_114 : decode cX9_acted 114 = .ok (.iconst 1, 1) := by decide +kernel
theorem dX9_acted_115 : decode cX9_acted 115 = .ok (.iadd, 1) := by decide +kernel
theorem dX9_acted_116 : decode cX9_acted 116 = .ok (.putfield 241, 3) := by decide +kernel
theorem dX9_acted_119 : decode cX9_acted 119 = .ok (.return_, 1) := by decide +kernel
theorem dX9_undo_0 : decode cX9_undo 0 = .ok (.aload_n 0, 1) := by decide +kernel
theorem dX9_undo_1 : decode cX9_undo 1 = .ok (.iconst 0, 1) := by decide +kernel
theorem dX9_undo_2 : decode cX9_undo 2 = .ok (.putfield 1, 3) := by decide +kernel
theorem dX9_undo_5 : decode cX9_undo 5 = .ok (.aload_n 0, 1) := by decide +kernel
theorem dX9_undo_6 : decode cX9_undo 6 = .ok (.getfield 241, 3) := by decide +kernel
theorem dX9_undo_9 : decode cX9_undo 9 = .ok (.ifCond .ne 5, 3) := by decide +kernel
theorem dX9_undo_12 : decode cX9_undo 12 = .ok (.iconst (-1), 1) := by decide +kernel
theorem dX9_undo_13 : decode cX9_undo 13 = .ok (.ireturn, 1) := by decide +kernel
theorem dX9_undo_14 : decode cX9_undo 14 = .ok (.aload_n 0, 1) := by decide +kernel
theorem dX9_undo_15 : decode cX9_undo 15 = .ok (.dup, 1) := by decide +kernel
theorem dX9_undo_16 : decode cX9_undo 16 = .ok (.getfield 241, 3) := by decide +kernel
theorem dX9_undo_19 : decode cX9_undo 19 = .ok (.iconst 1, 1) := by decide +kernel
theorem dX9_undo_20 : decode cX9_undo 20 = .ok (.isub, 1) := by decide +kernel
theorem dX9_undo_21 : decode cX9_undo 21 = .ok (.putfield 241, 3) := by decide +kernel
theorem dX9_undo_24 : decode cX9_undo 24 = .ok (.aload_n 0, 1) := by decide +kernel
theorem dX9_undo_25 : decode cX9_undo 25 = .ok (.getfield 118, 3) := by decide +kernel
theorem dX9_undo_28 : decode cX9_undo 28 = .ok (.aload_n 0, 1) := by decide +kernel
theorem dX9_undo_29 : decode cX9_undo 29 = .ok (.getfield 241, 3) := by decide +kernel
theorem dX9_undo_32 : decode cX9_undo 32 = .ok (.iaload, 1) := by decide +kernel
theorem dX9_undo_33 : decode cX9_undo 33 = .ok (.istore_n 1, 1) := by decide +kernel
theorem dX9_undo_34 : decode cX9_undo 34 = .ok (.aload_n 0, 1) := by decide +kernel
theorem dX9_undo_35 : decode cX9_undo 35 = .ok (.getfield 115, 3) := by decide +kernel
theorem dX9_undo_38 : decode cX9_undo 38 = .ok (.aload_n 0, 1) := by decide +kernel
theorem dX9_undo_39 : decode cX9_undo 39 = .ok (.getfield 241, 3) := by decide +kernel
theorem dX9_undo_42 : decode cX9_undo 42 = .ok (.iaload, 1) := by decide +kernel
theorem dX9_undo_43 : decode cX9_undo 43 = .ok (.iconst 1, 1) := by decide +kernel
theorem dX9_undo_44 : decode cX9_undo 44 = .ok (.if_icmp .ne 13, 3) := by decide +kernel
theorem dX9_undo_47 : decode cX9_undo 47 = .ok (.aload_n 0, 1) := by decide +kernel
theorem dX9_undo_48 : decode cX9_undo 48 = .ok (.getfield 91, 3) := by decide +kernel
theorem dX9_undo_51 : decode cX9_undo 51 = .ok (.iload_n 1, 1) := by decide +kernel
theorem dX9_undo_52 : decode cX9_undo 52 = .ok (.iconst 0, 1) := by decide +kernel
theorem dX9_undo_53 : decode cX9_undo 53 = .ok (.bastore, 1) := by decide +kernel
theorem dX9_undo_54 : decode cX9_undo 54 = .ok (.goto 40, 3) := by decide +kernel
theorem dX9_undo_57 : decode cX9_undo 57 = .ok (.aload_n 0, 1) := by decide +kernel
theorem dX9_undo_58 : decode cX9_undo 58 = .ok (.getfield 115, 3) := by decide +kernel
theorem dX9_undo_61 : decode cX9_undo 61 = .ok (.aload_n 0, 1) := by decide +kernel
theorem dX9_undo_62 : decode cX9_undo 62 = .ok (.getfield 241, 3) := by decide +kernel
theorem dX9_undo_65 : decode cX9_undo 65 = .ok (.iaload, 1) := by decide +kernel
theorem dX9_undo_66 : decode cX9_undo 66 = .ok (.iconst 2, 1) := by decide +kernel
theorem dX9_undo_67 : decode cX9_undo 67 = .ok (.if_icmp .ne 13, 3) := by decide +kernel
theorem dX9_undo_70 : decode cX9_undo 70 = .ok (.aload_n 0, 1) := by decide +kernel
theorem dX9_undo_71 : decode cX9_undo 71 = .ok (.getfield 94, 3) := by decide +kernel
theorem dX9_undo_74 : decode cX9_undo 74 = .ok (.iload_n 1, 1) := by decide +kernel
theorem dX9_undo_75 : decode cX9_undo 75 = .ok (.iconst 0, 1) := by decide +kernel
theorem dX9_undo_76 : decode cX9_undo 76 = .ok (.bastore, 1) := by decide +kernel
theorem dX9_undo_77 : decode cX9_undo 77 = .ok (.goto 17, 3) := by decide +kernel
theorem dX9_undo_80 : decode cX9_undo 80 = .ok (.aload_n 0, 1) := by decide +kernel
theorem dX9_undo_81 : decode cX9_undo 81 = .ok (.iload_n 1, 1) := by decide +kernel
theorem dX9_undo_82 : decode cX9_undo 82 = .ok (.aload_n 0, 1) := by decide +kernel
theorem dX9_undo_83 : decode cX9_undo 83 = .ok (.getfield 121, 3) := by decide +kernel
theorem dX9_undo_86 : decode cX9_undo 86 = .ok (.aload_n 0, 1) := by decide +kernel
theorem dX9_undo_87 : decode cX9_undo 87 = .ok (.getfield 241, 3) := by decide +kernel
theorem dX9_undo_90 : decode cX9_undo 90 = .ok (.iaload, 1) := by decide +kernel
theorem dX9_undo_91 : decode cX9_undo 91 = .ok (.invokevirtual 244, 3) := by decide +kernel
theorem dX9_undo_94 : decode cX9_undo 94 = .ok (.aload_n 0, 1) := by decide +kernel
theorem dX9_undo_95 : decode cX9_undo 95 = .ok (.getfield 115, 3) := by decide +kernel
theorem dX9_undo_98 : decode cX9_undo 98 = .ok (.aload_n 0, 1) := by decide +kernel
theorem dX9_undo_99 : decode cX9_undo 99 = .ok (.getfield 241, 3) := by decide +kernel
theorem dX9_undo_102 : decode cX9_undo 102 = .ok (.iaload, 1) := by decide +kernel
theorem dX9_undo_103 : decode cX9_undo 103 = .ok (.ireturn, 1) := by decide +kernel
theorem dX9_takeBack_0 : decode cX9_takeBack 0 = .ok (.aload_n 0, 1) := by decide +kernel
theorem dX9_takeBack_1 : decode cX9_takeBack 1 = .ok (.getfield 85, 3) := by decide +kernel
theorem dX9_takeBack_4 : decode cX9_takeBack 4 = .ok (.iload_n 1, 1) := by decide +kernel
theorem dX9_takeBack_5 : decode cX9_takeBack 5 = .ok (.dup2, 1) := by decide +kernel
theorem dX9_takeBack_6 : decode cX9_takeBack 6 = .ok (.iaload, 1) := by decide +kernel
theorem dX9_takeBack_7 : decode cX9_takeBack 7 = .ok (.iconst 1, 1) := by decide +kernel
theorem dX9_takeBack_8 : decode cX9_takeBack 8 = .ok (.aload_n 0, 1) := by decide +kernel
theorem dX9_takeBack_9 : decode cX9_takeBack 9 = .ok (.getfield 127, 3) := by decide +kernel
theorem dX9_takeBack_12 : decode cX9_takeBack 12 = .ok (.iload_n 2, 1) := by decide +kernel
theorem dX9_takeBack_13 : decode cX9_takeBack 13 = .ok (.iaload, 1) := by decide +kernel
theorem dX9_takeBack_14 : decode cX9_takeBack 14 = .ok (.ishl, 1) := by decide +kernel
theorem dX9_takeBack_15 : decode cX9_takeBack 15 = .ok (.ior, 1) := by decide +kernel
theorem dX9_takeBack_16 : decode cX9_takeBack 16 = .ok (.iastore, 1) := by decide +kernel
theorem dX9_takeBack_17 : decode cX9_takeBack 17 = .ok (.aload_n 0, 1) := by decide +kernel
theorem dX9_takeBack_18 : decode cX9_takeBack 18 = .ok (.getfield 130, 3) := by decide +kernel
theorem dX9_takeBack_21 : decode cX9_takeBack 21 = .ok (.iload_n 2, 1) := by decide +kernel
theorem dX9_takeBack_22 : decode cX9_takeBack 22 = .ok (.iconst 3, 1) := by decide +kernel
theorem dX9_takeBack_23 : decode cX9_takeBack 23 = .ok (.iastore, 1) := by decide +kernel
theorem dX9_takeBack_24 : decode cX9_takeBack 24 = .ok (.aload_n 0, 1) := by decide +kernel
theorem dX9_takeBack_25 : decode cX9_takeBack 25 = .ok (.getfield 133, 3) := by decide +kernel
theorem dX9_takeBack_28 : decode cX9_takeBack 28 = .ok (.iload_n 2, 1) := by decide +kernel
theorem dX9_takeBack_29 : decode cX9_takeBack 29 = .ok (.aload_n 0, 1) := by decide +kernel
theorem dX9_takeBack_30 : decode cX9_takeBack 30 = .ok (.getfield 248, 3) := by decide +kernel
theorem dX9_takeBack_33 : decode cX9_takeBack 33 = .ok (.iastore, 1) := by decide +kernel
theorem dX9_takeBack_34 : decode cX9_takeBack 34 = .ok (.aload_n 0, 1) := by decide +kernel
theorem dX9_takeBack_35 : decode cX9_takeBack 35 = .ok (.getfield 109, 3) := by decide +kernel
theorem dX9_takeBack_38 : decode cX9_takeBack 38 = .ok (.aload_n 0, 1) := by decide +kernel
theorem dX9_takeBack_39 : decode cX9_takeBack 39 = .ok (.iload_n 2, 1) := by decide +kernel
theorem dX9_takeBack_40 : decode cX9_takeBack 40 = .ok (.invokevirtual 251, 3) := by decide +kernel
theorem dX9_takeBack_43 : decode cX9_takeBack 43 = .ok (.dup2, 1) := by decide +kernel
theorem dX9_takeBack_44 : decode cX9_takeBack 44 = .ok (.laload, 1) := by decide +kernel
theorem dX9_takeBack_45 : decode cX9_takeBack 45 = .ok (.aload_n 0, 1) := by decide +kernel
theorem dX9_takeBack_46 : decode cX9_takeBack 46 = .ok (.iload_n 2, 1) := by decide +kernel
theorem dX9_takeBack_47 : decode cX9_takeBack 47 = .ok (.invokevirtual 255, 3) := by decide +kernel
theorem dX9_takeBack_50 : decode cX9_takeBack 50 = .ok (.i2l, 1) := by decide +kernel
theorem dX9_takeBack_51 : decode cX9_takeBack 51 = .ok (.lsub, 1) := by decide +kernel
theorem dX9_takeBack_52 : decode cX9_takeBack 52 = .ok (.lastore, 1) := by decide +kernel
theorem dX9_takeBack_53 : decode cX9_takeBack 53 = .ok (.aload_n 0, 1) := by decide +kernel
theorem dX9_takeBack_54 : decode cX9_takeBack 54 = .ok (.dup, 1) := by decide +kernel
theorem dX9_takeBack_55 : decode cX9_takeBack 55 = .ok (.getfield 258, 3) := by decide +kernel
theorem dX9_takeBack_58 : decode cX9_takeBack 58 = .ok (.iconst 1, 1) := by decide +kernel
theorem dX9_takeBack_59 : decode cX9_takeBack 59 = .ok (.isub, 1) := by decide +kernel
theorem dX9_takeBack_60 : decode cX9_takeBack 60 = .ok (.putfield 258, 3) := by decide +kernel
theorem dX9_takeBack_63 : decode cX9_takeBack 63 = .ok (.return_, 1) := by decide +kernel
theorem dX9_car_0 : decode cX9_car 0 = .ok (.aload_n 0, 1) := by decide +kernel
theorem dX9_car_1 : decode cX9_car 1 = .ok (.iconst 0, 1) := by decide +kernel
theorem dX9_car_2 : decode cX9_car 2 = .ok (.putfield 1, 3) := by decide +kernel
theorem dX9_car_5 : decode cX9_car 5 = .ok (.iload_n 1, 1) := by decide +kernel
theorem dX9_car_6 : decode cX9_car 6 = .ok (.ifCond .lt 35, 3) := by decide +kernel
theorem dX9_car_9 : decode cX9_car 9 = .ok (.iload_n 1, 1) := by decide +kernel
theorem dX9_car_10 : decode cX9_car 10 = .ok (.bipush 8, 2) := by decide +kernel
theorem dX9_car_12 : decode cX9_car 12 = .ok (.if_icmp .ge 29, 3) := by decide +kernel
theorem dX9_car_15 : decode cX9_car 15 = .ok (.iload_n 2, 1) := by decide +kernel
theorem dX9_car_16 : decode cX9_car 16 = .ok (.ifCond .lt 25, 3) := by decide +kernel
theorem dX9_car_19 : decode cX9_car 19 = .ok (.iload_n 2, 1) := by decide +kernel
theorem dX9_car_20 : decode cX9_car 20 = .ok (.sipush 9999, 3) := by decide +kernel
theorem dX9_car_23 : decode cX9_car 23 = .ok (.if_icmp .gt 18, 3) := by decide +kernel
theorem dX9_car_26 : decode cX9_car 26 = .ok (.iload_n 3, 1) := by decide +kernel
theorem dX9_car_27 : decode cX9_car 27 = .ok (.ifCond .lt 14, 3) := by decide +kernel
theorem dX9_car_30 : decode cX9_car 30 = .ok (.iload_n 3, 1) := by decide +kernel
theorem dX9_car_31 : decode cX9_car 31 = .ok (.sipush 255, 3) := by decide +kernel
theorem dX9_car_34 : decode cX9_car 34 = .ok (.if_icmp .gt 7, 3) := by decide +kernel
theorem dX9_car_37 : decode cX9_car 37 = .ok (.iconst 1, 1) := by decide +kernel
theorem dX9_car_38 : decode cX9_car 38 = .ok (.goto 4, 3) := by decide +kernel
theorem dX9_car_41 : decode cX9_car 41 = .ok (.iconst 0, 1) := by decide +kernel
theorem dX9_car_42 : decode cX9_car 42 = .ok (.istore 5, 2) := by decide +kernel
theorem dX9_car_44 : decode cX9_car 44 = .ok (.aload_n 0, 1) := by decide +kernel
theorem dX9_car_45 : decode cX9_car 45 = .ok (.iload 5, 2) := by decide +kernel
theorem dX9_car_47 : decode cX9_car 47 = .ok (.ifCond .eq 30, 3) := by decide +kernel
theorem dX9_car_50 : decode cX9_car 50 = .ok (.aload_n 0, 1) := by decide +kernel
theorem dX9_car_51 : decode cX9_car 51 = .ok (.getfield 46, 3) := by decide +kernel
theorem dX9_car_54 : decode cX9_car 54 = .ok (.iload_n 1, 1) := by decide +kernel
theorem dX9_car_55 : decode cX9_car 55 = .ok (.ifCond .lt 9, 3) := by decide +kernel
theorem dX9_car_58 : decode cX9_car 58 = .ok (.iload_n 1, 1) := by decide +kernel
theorem dX9_car_59 : decode cX9_car 59 = .ok (.bipush 7, 2) := by decide +kernel
theorem dX9_car_61 : decode cX9_car 61 = .ok (.if_icmp .le 7, 3) := by decide +kernel
theorem dX9_car_64 : decode cX9_car 64 = .ok (.iconst 0, 1) := by decide +kernel
theorem dX9_car_65 : decode cX9_car 65 = .ok (.goto 4, 3) := by decide +kernel
theorem dX9_car_68 : decode cX9_car 68 = .ok (.iload_n 1, 1) := by decide +kernel
theorem dX9_car_69 : decode cX9_car 69 = .ok (.iaload, 1) := by decide +kernel
theorem dX9_car_70 : decode cX9_car 70 = .ok (.ifCond .le 7, 3) := by decide +kernel
theorem dX9_car_73 : decode cX9_car 73 = .ok (.iconst 1, 1) := by decide +kernel
theorem dX9_car_74 : decode cX9_car 74 = .ok (.goto 4, 3) := by decide +kernel
theorem dX9_car_77 : decode cX9_car 77 = .ok (.iconst 0, 1) := by decide +kernel
theorem dX9_car_78 : decode cX9_car 78 = .ok (.iconst 1, 1) := by decide +kernel
theorem dX9_car_79 : decode cX9_car 79 = .ok (.invokevirtual 151, 3) := by decide +kernel
theorem dX9_car_82 : decode cX9_car 82 = .ok (.ifCond .eq 33, 3) := by decide +kernel
theorem dX9_car_85 : decode cX9_car 85 = .ok (.aload_n 0, 1) := by decide +kernel
theorem dX9_car_86 : decode cX9_car 86 = .ok (.iload 4, 2) := by decide +kernel
theorem dX9_car_88 : decode cX9_car 88 = .ok (.ifCond .lt 19, 3) := by decide +kernel
theorem dX9_car_91 : decode cX9_car 91 = .ok (.iload 4, 2) := by decide +kernel
theorem dX9_car_93 : decode cX9_car 93 = .ok (.aload_n 0, 1) := by decide +kernel
theorem dX9_car_94 : decode cX9_car 94 = .ok (.getfield 46, 3) := by decide +kernel
theorem dX9_car_97 : decode cX9_car 97 = .ok (.iload_n 1, 1) := by decide +kernel
theorem dX9_car_98 : decode cX9_car 98 = .ok (.iaload, 1) := by decide +kernel
theorem dX9_car_99 : decode cX9_car 99 = .ok (.ishr, 1) := by decide +kernel
theorem dX9_car_100 : decode cX9_car 100 = .ok (.ifCond .ne 7, 3) := by decide +kernel
theorem dX9_car_103 : decode cX9_car 103 = .ok (.iconst 1, 1) := by decide +kernel
theorem dX9_car_104 : decode cX9_car 104 = .ok (.goto 4, 3) := by decide +kernel
theorem dX9_car_107 : decode cX9_car 107 = .ok (.iconst 0, 1) := by decide +kernel
theorem dX9_car_108 : decode cX9_car 108 = .ok (.iconst 1, 1) := by decide +kernel
theorem dX9_car_109 : decode cX9_car 109 = .ok (.invokevirtual 151, 3) := by decide +kernel
theorem dX9_car_112 : decode cX9_car 112 = .ok (.ifCond .ne 5, 3) := by decide +kernel
theorem dX9_car_115 : decode cX9_car 115 = .ok (.iconst 0, 1) := by decide +kernel
theorem dX9_car_116 : decode cX9_car 116 = .ok (.ireturn, 1) := by decide +kernel
theorem dX9_car_117 : decode cX9_car 117 = .ok (.aload_n 0, 1) := by decide +kernel
theorem dX9_car_118 : decode cX9_car 118 = .ok (.getfield 261, 3) := by decide +kernel
theorem dX9_car_121 : decode cX9_car 121 = .ok (.bipush 40, 2) := by decide +kernel
theorem dX9_car_123 : decode cX9_car 123 = .ok (.if_icmp .ne 5, 3) := by decide +kernel
theorem dX9_car_126 : decode cX9_car 126 = .ok (.iconst (-1), 1) := by decide +kernel
theorem dX9_car_127 : decode cX9_car 127 = .ok (.ireturn, 1) := by decide +kernel
theorem dX9_car_128 : decode cX9_car 128 = .ok (.aload_n 0, 1) := by decide +kernel
theorem dX9_car_129 : decode cX9_car 129 = .ok (.getfield 261, 3) := by decide +kernel
theorem dX9_car_132 : decode cX9_car 132 = .ok (.istore 6, 2) := by decide +kernel
theorem dX9_car_134 : decode cX9_car 134 = .ok (.aload_n 0, 1) := by decide +kernel
theorem dX9_car_135 : decode cX9_car 135 = .ok (.getfield 73, 3) := by decide +kernel
theorem dX9_car_138 : decode cX9_car 138 = .ok (.iload 6, 2) := by decide +kernel
theorem dX9_car_140 : decode cX9_car 140 = .ok (.iload_n 1, 1) := by decide +kernel
theorem dX9_car_141 : decode cX9_car 141 = .ok (.iastore, 1) := by decide +kernel
theorem dX9_car_142 : decode cX9_car 142 = .ok (.aload_n 0, 1) := by decide +kernel
theorem dX9_car_143 : decode cX9_car 143 = .ok (.getfield 76, 3) := by decide +kernel
theorem dX9_car_146 : decode cX9_car 146 = .ok (.iload 6, 2) := by decide +kernel
theorem dX9_car_148 : decode cX9_car 148 = .ok (.iload_n 2, 1) := by decide +kernel
theorem dX9_car_149 : decode cX9_car 149 = .ok (.iastore, 1) := by decide +kernel
theorem dX9_car_150 : decode cX9_car 150 = .ok (.aload_n 0, 1) := by decide +kernel
theorem dX9_car_151 : decode cX9_car 151 = .ok (.getfield 79, 3) := by decide +kernel
theorem dX9_car_154 : decode cX9_car 154 = .ok (.iload 6, 2) := by decide +kernel
theorem dX9_car_156 : decode cX9_car 156 = .ok (.iload_n 3, 1) := by decide +kernel
theorem dX9_car_157 : decode cX9_car 157 = .ok (.iastore, 1) := by decide +kernel
theorem dX9_car_158 : decode cX9_car 158 = .ok (.aload_n 0, 1) := by decide +kernel
theorem dX9_car_159 : decode cX9_car 159 = .ok (.getfield 82, 3) := by decide +kernel
theorem dX9_car_162 : decode cX9_car 162 = .ok (.iload 6, 2) := by decide +kernel
theorem dX9_car_164 : decode cX9_car 164 = .ok (.aload_n 0, 1) := by decide +kernel
theorem dX9_car_165 : decode cX9_car 165 = .ok (.getfield 46, 3) := by decide +kernel
theorem dX9_car_168 : decode cX9_car 168 = .ok (.iload_n 1, 1) := by decide +kernel
theorem dX9_car_169 : decode cX9_car 169 = .ok (.iaload, 1) := by decide +kernel
theorem dX9_car_170 : decode cX9_car 170 = .ok (.iastore, 1) := by decide +kernel
theorem dX9_car_171 : decode cX9_car 171 = .ok (.aload_n 0, 1) := by decide +kernel
theorem dX9_car_172 : decode cX9_car 172 = .ok (.getfield 85, 3) := by decide +kernel
theorem dX9_car_175 : decode cX9_car 175 = .ok (.iload 6, 2) := by decide +kernel
theorem dX9_car_177 : decode cX9_car 177 = .ok (.iconst 1, 1) := by decide +kernel
theorem dX9_car_178 : decode cX9_car 178 = .ok (.aload_n 0, 1) := by decide +kernel
theorem dX9_car_179 : decode cX9_car 179 = .ok (.getfield 46, 3) := by decide +kernel
theorem dX9_car_182 : decode cX9_car 182 = .ok (.iload_n 1, 1) := by decide +kernel
theorem dX9_car_183 : decode cX9_car 183 = .ok (.iaload, 1) := by decide +kernel
theorem dX9_car_184 : decode cX9_car 184 = .ok (.ishl, 1) := by decide +kernel
theorem dX9_car_185 : decode cX9_car 185 = .ok (.iconst 1, 1) := by decide +kernel
theorem dX9_car_186 : decode cX9_car 186 = .ok (.isub, 1) := by decide +kernel
theorem dX9_car_187 : decode cX9_car 187 = .ok (.iload 4, 2) := by decide +kernel
theorem dX9_car_189 : decode cX9_car 189 = .ok (.iconst (-1), 1) := by decide +kernel
theorem dX9_car_190 : decode cX9_car 190 = .ok (.ixor, 1) := by decide +kernel
theorem dX9_car_191 : decode cX9_car 191 = .ok (.iand, 1) := by decide +kernel
theorem dX9_car_192 : decode cX9_car 192 = .ok (.iastore, 1) := by decide +kernel
theorem dX9_car_193 : decode cX9_car 193 = .ok (.aload_n 0, 1) := by decide +kernel
theorem dX9_car_194 : decode cX9_car 194 = .ok (.getfield 88, 3) := by decide +kernel
theorem dX9_car_197 : decode cX9_car 197 = .ok (.iload 6, 2) := by decide +kernel
theorem dX9_car_199 : decode cX9_car 199 = .ok (.aload_n 0, 1) := by decide +kernel
theorem dX9_car_200 : decode cX9_car 200 = .ok (.getfield 248, 3) := by decide +kernel
theorem dX9_car_203 : decode cX9_car 203 = .ok (.iastore, 1) := by decide +kernel
theorem dX9_car_204 : decode cX9_car 204 = .ok (.aload_n 0, 1) := by decide +kernel
theorem dX9_car_205 : decode cX9_car 205 = .ok (.getfield 91, 3) := by decide +kernel
theorem dX9_car_208 : decode cX9_car 208 = .ok (.iload 6, 2) := by decide +kernel
theorem dX9_car_210 : decode cX9_car 210 = .ok (.iconst 0, 1) := by decide +kernel
theorem dX9_car_211 : decode cX9_car 211 = .ok (.bastore, 1) := by decide +kernel
theorem dX9_car_212 : decode cX9_car 212 = .ok (.aload_n 0, 1) := by decide +kernel
theorem dX9_car_213 : decode cX9_car 213 = .ok (.getfield 94, 3) := by decide +kernel
theorem dX9_car_216 : decode cX9_car 216 = .ok (.iload 6, 2) := by decide +kernel
theorem dX9_car_218 : decode cX9_car 218 = .ok (.iconst 0, 1) := by decide +kernel
theorem dX9_car_219 : decode cX9_car 219 = .ok (.bastore, 1) := by decide +kernel
theorem dX9_car_220 : decode cX9_car 220 = .ok (.aload_n 0, 1) := by decide +kernel
theorem dX9_car_221 : decode cX9_car 221 = .ok (.getfield 97, 3) := by decide +kernel
theorem dX9_car_224 : decode cX9_car 224 = .ok (.iload 6, 2) := by decide +kernel
theorem dX9_car_226 : decode cX9_car 226 = .ok (.iconst 0, 1) := by decide +kernel
theorem dX9_car_227 : decode cX9_car 227 = .ok (.bastore, 1) := by decide +kernel
theorem dX9_car_228 : decode cX9_car 228 = .ok (.iconst 0, 1) := by decide +kernel
theorem dX9_car_229 : decode cX9_car 229 = .ok (.istore 7, 2) := by decide +kernel
theorem dX9_car_231 : decode cX9_car 231 = .ok (.iload 7, 2) := by decide +kernel
theorem dX9_car_233 : decode cX9_car 233 = .ok (.aload_n 0, 1) := by decide +kernel
theorem dX9_car_234 : decode cX9_car 234 = .ok (.getfield 82, 3) := by decide +kernel
theorem dX9_car_237 : decode cX9_car 237 = .ok (.iload 6, 2) := by decide +kernel
theorem dX9_car_239 : decode cX9_car 239 = .ok (.iaload, 1) := by decide +kernel
theorem dX9_car_240 : decode cX9_car 240 = .ok (.if_icmp .ge 53, 3) := by decide +kernel
theorem dX9_car_243 : decode cX9_car 243 = .ok (.aload_n 0, 1) := by decide +kernel
theorem dX9_car_244 : decode cX9_car 244 = .ok (.iload 6, 2) := by decide +kernel
theorem dX9_car_246 : decode cX9_car 246 = .ok (.iload 7, 2) := by decide +kernel
theorem dX9_car_248 : decode cX9_car 248 = .ok (.invokevirtual 264, 3) := by decide +kernel
theorem dX9_car_251 : decode cX9_car 251 = .ok (.ifCond .eq 36, 3) := by decide +kernel
theorem dX9_car_254 : decode cX9_car 254 = .ok (.aload_n 0, 1) := by decide +kernel
theorem dX9_car_255 : decode cX9_car 255 = .ok (.getfield 100, 3) := by decide +kernel
theorem dX9_car_258 : decode cX9_car 258 = .ok (.aload_n 0, 1) := by decide +kernel
theorem dX9_car_259 : decode cX9_car 259 = .ok (.getfield 64, 3) := by decide +kernel
theorem dX9_car_262 : decode cX9_car 262 = .ok (.bipush 24, 2) := by decide +kernel
theorem dX9_car_264 : decode cX9_car 264 = .ok (.iload_n 1, 1) := by decide +kernel
theorem dX9_car_265 : decode cX9_car 265 = .ok (.imul, 1) := by decide +kernel
theorem dX9_car_266 : decode cX9_car 266 = .ok (.iload 7, 2) := by decide +kernel
theorem dX9_car_268 : decode cX9_car 268 = .ok (.iadd, 1) := by decide +kernel
theorem dX9_car_269 : decode cX9_car 269 = .ok (.iaload, 1) := by decide +kernel
theorem dX9_car_270 : decode cX9_car 270 = .ok (.dup2, 1) := by decide +kernel
theorem dX9_car_271 : decode cX9_car 271 = .ok (.laload, 1) := by decide +kernel
theorem dX9_car_272 : decode cX9_car 272 = .ok (.aload_n 0, 1) := by decide +kernel
theorem dX9_car_273 : decode cX9_car 273 = .ok (.getfield 61, 3) := by decide +kernel
theorem dX9_car_276 : decode cX9_car 276 = .ok (.bipush 24, 2) := by decide +kernel
theorem dX9_car_278 : decode cX9_car 278 = .ok (.iload_n 1, 1) := by decide +kernel
theorem dX9_car_279 : decode cX9_car 279 = .ok (.imul, 1) := by decide +kernel
theorem dX9_car_280 : decode cX9_car 280 = .ok (.iload 7, 2) := by decide +kernel
theorem dX9_car_282 : decode cX9_car 282 = .ok (.iadd, 1) := by decide +kernel
theorem dX9_car_283 : decode cX9_car 283 = .ok (.iaload, 1) := by decide +kernel
theorem dX9_car_284 : decode cX9_car 284 = .ok (.i2l, 1) := by decide +kernel
theorem dX9_car_285 : decode cX9_car 285 = .ok (.ladd, 1) := by decide +kernel
theorem dX9_car_286 : decode cX9_car 286 = .ok (.lastore, 1) := by decide +kernel
theorem dX9_car_287 : decode cX9_car 287 = .ok (.iinc 7 1, 3) := by decide +kernel
theorem dX9_car_290 : decode cX9_car 290 = .ok (.goto (-59), 3) := by decide +kernel
theorem dX9_car_293 : decode cX9_car 293 = .ok (.aload_n 0, 1) := by decide +kernel
theorem dX9_car_294 : decode cX9_car 294 = .ok (.dup, 1) := by decide +kernel
theorem dX9_car_295 : decode cX9_car 295 = .ok (.getfield 261, 3) := by decide +kernel
theorem dX9_car_298 : decode cX9_car 298 = .ok (.iconst 1, 1) := by decide +kernel
theorem dX9_car_299 : decode cX9_car 299 = .ok (.iadd, 1) := by decide +kernel
theorem dX9_car_300 : decode cX9_car 300 = .ok (.putfield 261, 3) := by decide +kernel
theorem dX9_car_303 : decode cX9_car 303 = .ok (.aload_n 0, 1) := by decide +kernel
theorem dX9_car_304 : decode cX9_car 304 = .ok (.iconst 0, 1) := by decide +kernel
theorem dX9_car_305 : decode cX9_car 305 = .ok (.putfield 241, 3) := by decide +kernel
theorem dX9_car_308 : decode cX9_car 308 = .ok (.iload 6, 2) := by decide +kernel
theorem dX9_car_310 : decode cX9_car 310 = .ok (.ireturn, 1) := by decide +kernel
theorem dX9_isOn_0 : decode cX9_isOn 0 = .ok (.aload_n 0, 1) := by decide +kernel
theorem dX9_isOn_1 : decode cX9_isOn 1 = .ok (.getfield 85, 3) := by decide +kernel
theorem dX9_isOn_4 : decode cX9_isOn 4 = .ok (.iload_n 1, 1) := by decide +kernel
theorem dX9_isOn_5 : decode cX9_isOn 5 = .ok (.iaload, 1) := by decide +kernel
theorem dX9_isOn_6 : decode cX9_isOn 6 = .ok (.iload_n 2, 1) := by decide +kernel
theorem dX9_isOn_7 : decode cX9_isOn 7 = .ok (.ishr, 1) := by decide +kernel
theorem dX9_isOn_8 : decode cX9_isOn 8 = .ok (.iconst 1, 1) := by decide +kernel
theorem dX9_isOn_9 : decode cX9_isOn 9 = .ok (.iand, 1) := by decide +kernel
theorem dX9_isOn_10 : decode cX9_isOn 10 = .ok (.iconst 1, 1) := by decide +kernel
theorem dX9_isOn_11 : decode cX9_isOn 11 = .ok (.if_icmp .ne 7, 3) := by decide +kernel
theorem dX9_isOn_14 : decode cX9_isOn 14 = .ok (.iconst 1, 1) := by decide +kernel
theorem dX9_isOn_15 : decode cX9_isOn 15 = .ok (.goto 4, 3) := by decide +kernel
theorem dX9_isOn_18 : decode cX9_isOn 18 = .ok (.iconst 0, 1) := by decide +kernel
theorem dX9_isOn_19 : decode cX9_isOn 19 = .ok (.ireturn, 1) := by decide +kernel
theorem dX9_isCar_0 : decode cX9_isCar 0 = .ok (.aload_n 0, 1) := by decide +kernel
theorem dX9_isCar_1 : decode cX9_isCar 1 = .ok (.iload_n 1, 1) := by decide +kernel
theorem dX9_isCar_2 : decode cX9_isCar 2 = .ok (.ifCond .lt 15, 3) := by decide +kernel
theorem dX9_isCar_5 : decode cX9_isCar 5 = .ok (.iload_n 1, 1) := by decide +kernel
theorem dX9_isCar_6 : decode cX9_isCar 6 = .ok (.aload_n 0, 1) := by decide +kernel
theorem dX9_isCar_7 : decode cX9_isCar 7 = .ok (.getfield 261, 3) := by decide +kernel
theorem dX9_isCar_10 : decode cX9_isCar 10 = .ok (.if_icmp .ge 7, 3) := by decide +kernel
theorem dX9_isCar_13 : decode cX9_isCar 13 = .ok (.iconst 1, 1) := by decide +kernel
theorem dX9_isCar_14 : decode cX9_isCar 14 = .ok (.goto 4, 3) := by decide +kernel
theorem dX9_isCar_17 : decode cX9_isCar 17 = .ok (.iconst 0, 1) := by decide +kernel
theorem dX9_isCar_18 : decode cX9_isCar 18 = .ok (.iconst 1, 1) := by decide +kernel
theorem dX9_isCar_19 : decode cX9_isCar 19 = .ok (.invokevirtual 151, 3) := by decide +kernel
theorem dX9_isCar_22 : decode cX9_isCar 22 = .ok (.ireturn, 1) := by decide +kernel
theorem dX9_about_0 : decode cX9_about 0 = .ok (.aload_n 0, 1) := by decide +kernel
theorem dX9_about_1 : decode cX9_about 1 = .ok (.iconst 0, 1) := by decide +kernel
theorem dX9_about_2 : decode cX9_about 2 = .ok (.putfield 1, 3) := by decide +kernel
theorem dX9_about_5 : decode cX9_about 5 = .ok (.aload_n 0, 1) := by decide +kernel
theorem dX9_about_6 : decode cX9_about 6 = .ok (.iload_n 1, 1) := by decide +kernel
theorem dX9_about_7 : decode cX9_about 7 = .ok (.invokevirtual 268, 3) := by decide +kernel
theorem dX9_about_10 : decode cX9_about 10 = .ok (.ifCond .eq 26, 3) := by decide +kernel
theorem dX9_about_13 : decode cX9_about 13 = .ok (.aload_n 0, 1) := by decide +kernel
theorem dX9_about_14 : decode cX9_about 14 = .ok (.iload_n 2, 1) := by decide +kernel
theorem dX9_about_15 : decode cX9_about 15 = .ok (.ifCond .lt 13, 3) := by decide +kernel
theorem dX9_about_18 : decode cX9_about 18 = .ok (.iload_n 2, 1) := by decide +kernel
theorem dX9_about_19 : decode cX9_about 19 = .ok (.bipush 7, 2) := by decide +kernel
theorem dX9_about_21 : decode cX9_about 21 = .ok (.if_icmp .gt 7, 3) := by decide +kernel
theorem dX9_about_24 : decode cX9_about 24 = .ok (.iconst 1, 1) := by decide +kernel
theorem dX9_about_25 : decode cX9_about 25 = .ok (.goto 4, 3) := by decide +kernel
theorem dX9_about_28 : decode cX9_about 28 = .ok (.iconst 0, 1) := by decide +kernel
theorem dX9_about_29 : decode cX9_about 29 = .ok (.iconst 2, 1) := by decide +kernel
theorem dX9_about_30 : decode cX9_about 30 = .ok (.invokevirtual 151, 3) := by decide +kernel
theorem dX9_about_33 : decode cX9_about 33 = .ok (.ifCond .ne 5, 3) := by decide +kernel
theorem dX9_about_36 : decode cX9_about 36 = .ok (.iconst 0, 1) := by decide +kernel
theorem dX9_about_37 : decode cX9_about 37 = .ok (.ireturn, 1) := by decide +kernel
theorem dX9_about_38 : decode cX9_about 38 = .ok (.iload_n 2, 1) := by decide +kernel
theorem dX9_about_39 : decode cX9_about 39 = .ok (.tableswitch 114 0 6 #[41, 48, 55, 62, 69, 84, 99], 41) := by decide +kernel
theorem dX9_about_80 : decode cX9_about 80 = .ok (.aload_n 0, 1) := by decide +kernel
theorem dX9_about_81 : decode cX9_about 81 = .ok (.getfield 73, 3) := by decide +kernel
theorem dX9_about_84 : decode cX9_about 84 = .ok (.iload_n 1, 1) := by decide +kernel
theorem dX9_about_85 : decode cX9_about 85 = .ok (.iaload, 1) := by decide +kernel
theorem dX9_about_86 : decode cX9_about 86 = .ok (.ireturn, 1) := by decide +kernel
theorem dX9_about_87 : decode cX9_about 87 = .ok (.aload_n 0, 1) := by decide +kernel
theorem dX9_about_88 : decode cX9_about 88 = .ok (.getfield 76, 3) := by decide +kernel
theorem dX9_about_91 : decode cX9_about 91 = .ok (.iload_n 1, 1) := by decide +kernel
theorem dX9_about_92 : decode cX9_about 92 = .ok (.iaload, 1) := by decide +kernel
theorem dX9_about_93 : decode cX9_about 93 = .ok (.ireturn, 1) := by decide +kernel
theorem dX9_about_94 : decode cX9_about 94 = .ok (.aload_n 0, 1) := by decide +kernel
theorem dX9_about_95 : decode cX9_about 95 = .ok (.getfield 79, 3) := by decide +kernel
theorem dX9_about_98 : decode cX9_about 98 = .ok (.iload_n 1, 1) := by decide +kernel
theorem dX9_about_99 : decode cX9_about 99 = .ok (.iaload, 1) := by decide +kernel
theorem dX9_about_100 : decode cX9_about 100 = .ok (.ireturn, 1) := by decide +kernel
theorem dX9_about_101 : decode cX9_about 101 = .ok (.aload_n 0, 1) := by decide +kernel
theorem dX9_about_102 : decode cX9_about 102 = .ok (.getfield 85, 3) := by decide +kernel
theorem dX9_about_105 : decode cX9_about 105 = .ok (.iload_n 1, 1) := by decide +kernel
theorem dX9_about_106 : decode cX9_about 106 = .ok (.iaload, 1) := by decide +kernel
theorem dX9_about_107 : decode cX9_about 107 = .ok (.ireturn, 1) := by decide +kernel
theorem dX9_about_108 : decode cX9_about 108 = .ok (.aload_n 0, 1) := by decide +kernel
theorem dX9_about_109 : decode cX9_about 109 = .ok (.getfield 91, 3) := by decide +kernel
theorem dX9_about_112 : decode cX9_about 112 = .ok (.iload_n 1, 1) := by decide +kernel
theorem dX9_about_113 : decode cX9_about 113 = .ok (.baload, 1) := by decide +kernel
theorem dX9_about_114 : decode cX9_about 114 = .ok (.ifCond .eq 7, 3) := by decide +kernel
theorem dX9_about_117 : decode cX9_about 117 = .ok (.iconst 1, 1) := by decide +kernel
theorem dX9_about_118 : decode cX9_about 118 = .ok (.goto 4, 3) := by decide +kernel
theorem dX9_about_121 : decode cX9_about 121 = .ok (.iconst 0, 1) := by decide +kernel
theorem dX9_about_122 : decode cX9_about 122 = .ok (.ireturn, 1) := by decide +kernel
theorem dX9_about_123 : decode cX9_about 123 = .ok (.aload_n 0, 1) := by decide +kernel
theorem dX9_about_124 : decode cX9_about 124 = .ok (.getfield 94, 3) := by decide +kernel
theorem dX9_about_127 : decode cX9_about 127 = .ok (.iload_n 1, 1) := by decide +kernel
theorem dX9_about_128 : decode cX9_about 128 = .ok (.baload, 1) := by decide +kernel
theorem dX9_about_129 : decode cX9_about 129 = .ok (.ifCond .eq 7, 3) := by decide +kernel
theorem dX9_about_132 : decode cX9_about 132 = .ok (.iconst 1, 1) := by decide +kernel
theorem dX9_about_133 : decode cX9_about 133 = .ok (.goto 4, 3) := by decide +kernel
theorem dX9_about_136 : decode cX9_about 136 = .ok (.iconst 0, 1) := by decide +kernel
theorem dX9_about_137 : decode cX9_about 137 = .ok (.ireturn, 1) := by decide +kernel
theorem dX9_about_138 : decode cX9_about 138 = .ok (.aload_n 0, 1) := by decide +kernel
theorem dX9_about_139 : decode cX9_about 139 = .ok (.getfield 97, 3) := by decide +kernel
theorem dX9_about_142 : decode cX9_about 142 = .ok (.iload_n 1, 1) := by decide +kernel
theorem dX9_about_143 : decode cX9_about 143 = .ok (.baload, 1) := by decide +kernel
theorem dX9_about_144 : decode cX9_about 144 = .ok (.ifCond .eq 7, 3) := by decide +kernel
theorem dX9_about_147 : decode cX9_about 147 = .ok (.iconst 1, 1) := by decide +kernel
theorem dX9_about_148 : decode cX9_about 148 = .ok (.goto 4, 3) := by decide +kernel
theorem dX9_about_151 : decode cX9_about 151 = .ok (.iconst 0, 1) := by decide +kernel
theorem dX9_about_152 : decode cX9_about 152 = .ok (.ireturn, 1) := by decide +kernel
theorem dX9_about_153 : decode cX9_about 153 = .ok (.aload_n 0, 1) := by decide +kernel
theorem dX9_about_154 : decode cX9_about 154 = .ok (.getfield 88, 3) := by decide +kernel
theorem dX9_about_157 : decode cX9_about 157 = .ok (.iload_n 1, 1) := by decide +kernel
theorem dX9_about_158 : decode cX9_about 158 = .ok (.iaload, 1) := by decide +kernel
theorem dX9_about_159 : decode cX9_about 159 = .ok (.ireturn, 1) := by decide +kernel
theorem dX9_drain_0 : decode cX9_drain 0 = .ok (.aload_n 0, 1) := by decide +kernel
theorem dX9_drain_1 : decode cX9_drain 1 = .ok (.iconst 0, 1) := by decide +kernel
theorem dX9_drain_2 : decode cX9_drain 2 = .ok (.putfield 1, 3) := by decide +kernel
theorem dX9_drain_5 : decode cX9_drain 5 = .ok (.aload_n 0, 1) := by decide +kernel
theorem dX9_drain_6 : decode cX9_drain 6 = .ok (.iload_n 1, 1) := by decide +kernel
theorem dX9_drain_7 : decode cX9_drain 7 = .ok (.invokevirtual 268, 3) := by decide +kernel
theorem dX9_drain_10 : decode cX9_drain 10 = .ok (.ifCond .eq 21, 3) := by decide +kernel
theorem dX9_drain_13 : decode cX9_drain 13 = .ok (.aload_n 0, 1) := by decide +kernel
theorem dX9_drain_14 : decode cX9_drain 14 = .ok (.getfield 91, 3) := by decide +kernel
theorem dX9_drain_17 : decode cX9_drain 17 = .ok (.iload_n 1, 1) := by decide +kernel
theorem dX9_drain_18 : decode cX9_drain 18 = .ok (.baload, 1) := by decide +kernel
theorem dX9_drain_19 : decode cX9_drain 19 = .ok (.ifCond .ne 12, 3) := by decide +kernel
theorem dX9_drain_22 : decode cX9_drain 22 = .ok (.aload_n 0, 1) := by decide +kernel
theorem dX9_drain_23 : decode cX9_drain 23 = .ok (.getfield 97, 3) := by decide +kernel
theorem dX9_drain_26 : decode cX9_drain 26 = .ok (.iload_n 1, 1) := by decide +kernel
theorem dX9_drain_27 : decode cX9_drain 27 = .ok (.baload, 1) := by decide +kernel
theorem dX9_drain_28 : decode cX9_drain 28 = .ok (.ifCond .eq 5, 3) := by decide +kernel
theorem dX9_drain_31 : decode cX9_drain 31 = .ok (.iconst 0, 1) := by decide +kernel
theorem dX9_drain_32 : decode cX9_drain 32 = .ok (.ireturn, 1) := by decide +kernel
theorem dX9_drain_33 : decode cX9_drain 33 = .ok (.aload_n 0, 1) := by decide +kernel
theorem dX9_drain_34 : decode cX9_drain 34 = .ok (.getfield 91, 3) := by decide +kernel
theorem dX9_drain_37 : decode cX9_drain 37 = .ok (.iload_n 1, 1) := by decide +kernel
theorem dX9_drain_38 : decode cX9_drain 38 = .ok (.iconst 1, 1) := by decide +kernel
theorem dX9_drain_39 : decode cX9_drain 39 = .ok (.bastore, 1) := by decide +kernel
theorem dX9_drain_40 : decode cX9_drain 40 = .ok (.aload_n 0, 1) := by decide +kernel
theorem dX9_drain_41 : decode cX9_drain 41 = .ok (.iconst 1, 1) := by decide +kernel
theorem dX9_drain_42 : decode cX9_drain 42 = .ok (.iload_n 1, 1) := by decide +kernel
theorem dX9_drain_43 : decode cX9_drain 43 = .ok (.iconst 0, 1) := by decide +kernel
theorem dX9_drain_44 : decode cX9_drain 44 = .ok (.invokevirtual 271, 3) := by decide +kernel
theorem dX9_drain_47 : decode cX9_drain 47 = .ok (.iconst 1, 1) := by decide +kernel
theorem dX9_drain_48 : decode cX9_drain 48 = .ok (.ireturn, 1) := by decide +kernel
theorem dX9_papers_0 : decode cX9_papers 0 = .ok (.aload_n 0, 1) := by decide +kernel
theorem dX9_papers_1 : decode cX9_papers 1 = .ok (.iconst 0, 1) := by decide +kernel
theorem dX9_papers_2 : decode cX9_papers 2 = .ok (.putfield 1, 3) := by decide +kernel
theorem dX9_papers_5 : decode cX9_papers 5 = .ok (.aload_n 0, 1) := by decide +kernel
theorem dX9_papers_6 : decode cX9_papers 6 = .ok (.iload_n 1, 1) := by decide +kernel
theorem dX9_papers_7 : decode cX9_papers 7 = .ok (.invokevirtual 268, 3) := by decide +kernel
theorem dX9_papers_10 : decode cX9_papers 10 = .ok (.ifCond .eq 21, 3) := by decide +kernel
theorem dX9_papers_13 : decode cX9_papers 13 = .ok (.aload_n 0, 1) := by decide +kernel
theorem dX9_papers_14 : decode cX9_papers 14 = .ok (.getfield 94, 3) := by decide +kernel
theorem dX9_papers_17 : decode cX9_papers 17 = .ok (.iload_n 1, 1) := by decide +kernel
theorem dX9_papers_18 : decode cX9_papers 18 = .ok (.baload, 1) := by decide +kernel
theorem dX9_papers_19 : decode cX9_papers 19 = .ok (.ifCond .ne 12, 3) := by decide +kernel
theorem dX9_papers_22 : decode cX9_papers 22 = .ok (.aload_n 0, 1) := by decide +kernel
theorem dX9_papers_23 : decode cX9_papers 23 = .ok (.getfield 97, 3) := by decide +kernel
theorem dX9_papers_26 : decode cX9_papers 26 = .ok (.iload_n 1, 1) := by decide +kernel
theorem dX9_papers_27 : decode cX9_papers 27 = .ok (.baload, 1) := by decide +kernel
theorem dX9_papers_28 : decode cX9_papers 28 = .ok (.ifCond .eq 5, 3) := by decide +kernel
theorem dX9_papers_31 : decode cX9_papers 31 = .ok (.iconst 0, 1) := by decide +kernel
theorem dX9_papers_32 : decode cX9_papers 32 = .ok (.ireturn, 1) := by decide +kernel
theorem dX9_papers_33 : decode cX9_papers 33 = .ok (.aload_n 0, 1) := by decide +kernel
theorem dX9_papers_34 : decode cX9_papers 34 = .ok (.getfield 94, 3) := by decide +kernel
theorem dX9_papers_37 : decode cX9_papers 37 = .ok (.iload_n 1, 1) := by decide +kernel
theorem dX9_papers_38 : decode cX9_papers 38 = .ok (.iconst 1, 1) := by decide +kernel
theorem dX9_papers_39 : decode cX9_papers 39 = .ok (.bastore, 1) := by decide +kernel
theorem dX9_papers_40 : decode cX9_papers 40 = .ok (.aload_n 0, 1) := by decide +kernel
theorem dX9_papers_41 : decode cX9_papers 41 = .ok (.iconst 2, 1) := by decide +kernel
theorem dX9_papers_42 : decode cX9_papers 42 = .ok (.iload_n 1, 1) := by decide +kernel
theorem dX9_papers_43 : decode cX9_papers 43 = .ok (.iconst 0, 1) := by decide +kernel
theorem dX9_papers_44 : decode cX9_papers 44 = .ok (.invokevirtual 271, 3) := by decide +kernel
theorem dX9_papers_47 : decode cX9_papers 47 = .ok (.iconst 1, 1) := by decide +kernel
theorem dX9_papers_48 : decode cX9_papers 48 = .ok (.ireturn, 1) := by decide +kernel
theorem dX9_partOf_0 : decode cX9_partOf 0 = .ok (.bipush 24, 2) := by decide +kernel
theorem dX9_partOf_2 : decode cX9_partOf 2 = .ok (.aload_n 0, 1) := by decide +kernel
theorem dX9_partOf_3 : decode cX9_partOf 3 = .ok (.getfield 73, 3) := by decide +kernel
theorem dX9_partOf_6 : decode cX9_partOf 6 = .ok (.aload_n 0, 1) := by decide +kernel
theorem dX9_partOf_7 : decode cX9_partOf 7 = .ok (.getfield 124, 3) := by decide +kernel
theorem dX9_partOf_10 : decode cX9_partOf 10 = .ok (.iload_n 1, 1) := by decide +kernel
theorem dX9_partOf_11 : decode cX9_partOf 11 = .ok (.iaload, 1) := by decide +kernel
theorem dX9_partOf_12 : decode cX9_partOf 12 = .ok (.iaload, 1) := by decide +kernel
theorem dX9_partOf_13 : decode cX9_partOf 13 = .ok (.imul, 1) := by decide +kernel
theorem dX9_partOf_14 : decode cX9_partOf 14 = .ok (.aload_n 0, 1) := by decide +kernel
theorem dX9_partOf_15 : decode cX9_partOf 15 = .ok (.getfield 127, 3) := by decide +kernel
theorem dX9_partOf_18 : decode cX9_partOf 18 = .ok (.iload_n 1, 1) := by decide +kernel
theorem dX9_partOf_19 : decode cX9_partOf 19 = .ok (.iaload, 1) := by decide +kernel
theorem dX9_partOf_20 : decode cX9_partOf 20 = .ok (.iadd, 1) := by decide +kernel
theorem dX9_partOf_21 : decode cX9_partOf 21 = .ok (.ireturn, 1) := by decide +kernel
theorem dX9_gramsOf_0 : decode cX9_gramsOf 0 = .ok (.aload_n 0, 1) := by decide +kernel
theorem dX9_gramsOf_1 : decode cX9_gramsOf 1 = .ok (.getfield 61, 3) := by decide +kernel
theorem dX9_gramsOf_4 : decode cX9_gramsOf 4 = .ok (.aload_n 0, 1) := by decide +kernel
theorem dX9_gramsOf_5 : decode cX9_gramsOf 5 = .ok (.iload_n 1, 1) := by decide +kernel
theorem dX9_gramsOf_6 : decode cX9_gramsOf 6 = .ok (.invokevirtual 274, 3) := by decide +kernel
theorem dX9_gramsOf_9 : decode cX9_gramsOf 9 = .ok (.iaload, 1) := by decide +kernel
theorem dX9_gramsOf_10 : decode cX9_gramsOf 10 = .ok (.ireturn, 1) := by decide +kernel
theorem dX9_stuffOf_0 : decode cX9_stuffOf 0 = .ok (.aload_n 0, 1) := by decide +kernel
theorem dX9_stuffOf_1 : decode cX9_stuffOf 1 = .ok (.getfield 64, 3) := by decide +kernel
theorem dX9_stuffOf_4 : decode cX9_stuffOf 4 = .ok (.aload_n 0, 1) := by decide +kernel
theorem dX9_stuffOf_5 : decode cX9_stuffOf 5 = .ok (.iload_n 1, 1) := by decide +kernel
theorem dX9_stuffOf_6 : decode cX9_stuffOf 6 = .ok (.invokevirtual 274, 3) := by decide +kernel
theorem dX9_stuffOf_9 : decode cX9_stuffOf 9 = .ok (.iaload, 1) := by decide +kernel
theorem dX9_stuffOf_10 : decode cX9_stuffOf 10 = .ok (.ireturn, 1) := by decide +kernel
theorem dX9_hindrance_0 : decode cX9_hindrance 0 = .ok (.bipush 24, 2) := by decide +kernel
theorem dX9_hindrance_2 : decode cX9_hindrance 2 = .ok (.aload_n 0, 1) := by decide +kernel
theorem dX9_hindrance_3 : decode cX9_hindrance 3 = .ok (.getfield 73, 3) := by decide +kernel
theorem dX9_hindrance_6 : decode cX9_hindrance 6 = .ok (.iload_n 1, 1) := by decide +kernel
theorem dX9_hindrance_7 : decode cX9_hindrance 7 = .ok (.iaload, 1) := by decide +kernel
theorem dX9_hindrance_8 : decode cX9_hindrance 8 = .ok (.imul, 1) := by decide +kernel
theorem dX9_hindrance_9 : decode cX9_hindrance 9 = .ok (.istore_n 3, 1) := by decide +kernel
theorem dX9_hindrance_10 : decode cX9_hindrance 10 = .ok (.aload_n 0, 1) := by decide +kernel
theorem dX9_hindrance_11 : decode cX9_hindrance 11 = .ok (.getfield 55, 3) := by decide +kernel
theorem dX9_hindrance_14 : decode cX9_hindrance 14 = .ok (.iload_n 3, 1) := by decide +kernel
theorem dX9_hindrance_15 : decode cX9_hindrance 15 = .ok (.iload_n 2, 1) := by decide +kernel
theorem dX9_hindrance_16 : decode cX9_hindrance 16 = .ok (.iadd, 1) := by decide +kernel
theorem dX9_hindrance_17 : decode cX9_hindrance 17 = .ok (.iaload, 1) := by decide +kernel
theorem dX9_hindrance_18 : decode cX9_hindrance 18 = .ok (.istore 4, 2) := by decide +kernel
theorem dX9_hindrance_20 : decode cX9_hindrance 20 = .ok (.aload_n 0, 1) := by decide +kernel
theorem dX9_hindrance_21 : decode cX9_hindrance 21 = .ok (.getfield 49, 3) := by decide +kernel
theorem dX9_hindrance_24 : decode cX9_hindrance 24 = .ok (.iload_n 3, 1) := by decide +kernel
theorem dX9_hindrance_25 : decode cX9_hindrance 25 = .ok (.iload_n 2, 1) := by decide +kernel
theorem dX9_hindrance_26 : decode cX9_hindrance 26 = .ok (.iadd, 1) := by decide +kernel
theorem dX9_hindrance_27 : decode cX9_hindrance 27 = .ok (.iaload, 1) := by decide +kernel
theorem dX9_hindrance_28 : decode cX9_hindrance 28 = .ok (.istore 5, 2) := by decide +kernel
theorem dX9_hindrance_30 : decode cX9_hindrance 30 = .ok (.aload_n 0, 1) := by decide +kernel
theorem dX9_hindrance_31 : decode cX9_hindrance 31 = .ok (.getfield 97, 3) := by decide +kernel
theorem dX9_hindrance_34 : decode cX9_hindrance 34 = .ok (.iload_n 1, 1) := by decide +kernel
theorem dX9_hindrance_35 : decode cX9_hindrance 35 = .ok (.baload, 1) := by decide +kernel
theorem dX9_hindrance_36 : decode cX9_hindrance 36 = .ok (.ifCond .eq 5, 3) := by decide +kernel
theorem dX9_hindrance_39 : decode cX9_hindrance 39 = .ok (.iconst 1, 1) := by decide +kernel
theorem dX9_hindrance_40 : decode cX9_hindrance 40 = .ok (.ireturn, 1) := by decide +kernel
theorem dX9_hindrance_41 : decode cX9_hindrance 41 = .ok (.aload_n 0, 1) := by decide +kernel
theorem dX9_hindrance_42 : decode cX9_hindrance 42 = .ok (.iload_n 1, 1) := by decide +kernel
theorem dX9_hindrance_43 : decode cX9_hindrance 43 = .ok (.iload_n 2, 1) := by decide +kernel
theorem dX9_hindrance_44 : decode cX9_hindrance 44 = .ok (.invokevirtual 264, 3) := by decide +kernel
theorem dX9_hindrance_47 : decode cX9_hindrance 47 = .ok (.ifCond .ne 5, 3) := by decide +kernel
theorem dX9_hindrance_50 : decode cX9_hindrance 50 = .ok (.iconst 2, 1) := by decide +kernel
theorem dX9_hindrance_51 : decode cX9_hindrance 51 = .ok (.ireturn, 1) := by decide +kernel
theorem dX9_hindrance_52 : decode cX9_hindrance 52 = .ok (.iload 4, 2) := by decide +kernel
theorem dX9_hindrance_54 : decode cX9_hindrance 54 = .ok (.iconst (-1), 1) := by decide +kernel
theorem dX9_hindrance_55 : decode cX9_hindrance 55 = .ok (.if_icmp .eq 15, 3) := by decide +kernel
theorem dX9_hindrance_58 : decode cX9_hindrance 58 = .ok (.aload_n 0, 1) := by decide +kernel
theorem dX9_hindrance_59 : decode cX9_hindrance 59 = .ok (.iload_n 1, 1) := by decide +kernel
theorem dX9_hindrance_60 : decode cX9_hindrance 60 = .ok (.iload 4, 2) := by decide +kernel
theorem dX9_hindrance_62 : decode cX9_hindrance 62 = .ok (.invokevirtual 264, 3) := by decide +kernel
theorem dX9_hindrance_65 : decode cX9_hindrance 65 = .ok (.ifCond .eq 5, 3) := by decide +kernel
theorem dX9_hindrance_68 : decode cX9_hindrance 68 = .ok (.iconst 3, 1) := by decide +kernel
theorem dX9_hindrance_69 : decode cX9_hindrance 69 = .ok (.ireturn, 1) := by decide +kernel
theorem dX9_hindrance_70 : decode cX9_hindrance 70 = .ok (.iload 5, 2) := by decide +kernel
theorem dX9_hindrance_72 : decode cX9_hindrance 72 = .ok (.iconst 3, 1) := by decide +kernel
theorem dX9_hindrance_73 : decode cX9_hindrance 73 = .ok (.if_icmp .eq 9, 3) := by decide +kernel
theorem dX9_hindrance_76 : decode cX9_hindrance 76 = .ok (.iload 5, 2) := by decide +kernel
theorem dX9_hindrance_78 : decode cX9_hindrance 78 = .ok (.iconst 4, 1) := by decide +kernel
theorem dX9_hindrance_79 : decode cX9_hindrance 79 = .ok (.if_icmp .ne 14, 3) := by decide +kernel
theorem dX9_hindrance_82 : decode cX9_hindrance 82 = .ok (.aload_n 0, 1) := by decide +kernel
theorem dX9_hindrance_83 : decode cX9_hindrance 83 = .ok (.getfield 91, 3) := by decide +kernel
theorem dX9_hindrance_86 : decode cX9_hindrance 86 = .ok (.iload_n 1, 1) := by decide +kernel
theorem dX9_hindrance_87 : decode cX9_hindrance 87 = .ok (.baload, 1) := by decide +kernel
theorem dX9_hindrance_88 : decode cX9_hindrance 88 = .ok (.ifCond .ne 5, 3) := by decide +kernel
theorem dX9_hindrance_91 : decode cX9_hindrance 91 = .ok (.iconst 4, 1) := by decide +kernel
theorem dX9_hindrance_92 : decode cX9_hindrance 92 = .ok (.ireturn, 1) := by decide +kernel
theorem dX9_hindrance_93 : decode cX9_hindrance 93 = .ok (.iload 5, 2) := by decide +kernel
theorem dX9_hindrance_95 : decode cX9_hindrance 95 = .ok (.iconst 5, 1) := by decide +kernel
theorem dX9_hindrance_96 : decode cX9_hindrance 96 = .ok (.if_icmp .ne 17, 3) := by decide +kernel
theorem dX9_hindrance_99 : decode cX9_hindrance 99 = .ok (.aload_n 0, 1) := by decide +kernel
theorem dX9_hindrance_100 : decode cX9_hindrance 100 = .ok (.getfield 85, 3) := by decide +kernel
theorem dX9_hindrance_103 : decode cX9_hindrance 103 = .ok (.iload_n 1, 1) := by decide +kernel
theorem dX9_hindrance_104 : decode cX9_hindrance 104 = .ok (.iaload, 1) := by decide +kernel
theorem dX9_hindrance_105 : decode cX9_hindrance 105 = .ok (.iconst 1, 1) := by decide +kernel
theorem dX9_hindrance_106 : decode cX9_hindrance 106 = .ok (.iload_n 2, 1) := by decide +kernel
theorem dX9_hindrance_107 : decode cX9_hindrance 107 = .ok (.ishl, 1) := by decide +kernel
theorem dX9_hindrance_108 : decode cX9_hindrance 108 = .ok (.if_icmp .eq 5, 3) := by decide +kernel
theorem dX9_hindrance_111 : decode cX9_hindrance 111 = .ok (.iconst 5, 1) := by decide +kernel
theorem dX9_hindrance_112 : decode cX9_hindrance 112 = .ok (.ireturn, 1) := by decide +kernel
theorem dX9_hindrance_113 : decode cX9_hindrance 113 = .ok (.aload_n 0, 1) := by decide +kernel
theorem dX9_hindrance_114 : decode cX9_hindrance 114 = .ok (.getfield 258, 3) := by decide +kernel
theorem dX9_hindrance_117 : decode cX9_hindrance 117 = .ok (.bipush 60, 2) := by decide +kernel
theorem dX9_hindrance_119 : decode cX9_hindrance 119 = .ok (.if_icmp .ne 8, 3) := by decide +kernel
theorem dX9_hindrance_122 : decode cX9_hindrance 122 = .ok (.bipush 6, 2) := by decide +kernel
theorem dX9_hindrance_124 : decode cX9_hindrance 124 = .ok (.goto 19, 3) := by decide +kernel
theorem dX9_hindrance_127 : decode cX9_hindrance 127 = .ok (.aload_n 0, 1) := by decide +kernel
theorem dX9_hindrance_128 : decode cX9_hindrance 128 = .ok (.getfield 277, 3) := by decide +kernel
theorem dX9_hindrance_131 : decode cX9_hindrance 131 = .ok (.sipush 400, 3) := by decide +kernel
theorem dX9_hindrance_134 : decode cX9_hindrance 134 = .ok (.if_icmp .ne 8, 3) := by decide +kernel
theorem dX9_hindrance_137 : decode cX9_hindrance 137 = .ok (.bipush 7, 2) := by decide +kernel
theorem dX9_hindrance_139 : decode cX9_hindrance 139 = .ok (.goto 4, 3) := by decide +kernel
theorem dX9_hindrance_142 : decode cX9_hindrance 142 = .ok (.iconst 0, 1) := by decide +kernel
theorem dX9_hindrance_143 : decode cX9_hindrance 143 = .ok (.ireturn, 1) := by decide +kernel
theorem dX9_isPartOf_0 : decode cX9_isPartOf 0 = .ok (.aload_n 0, 1) := by decide +kernel
theorem dX9_isPartOf_1 : decode cX9_isPartOf 1 = .ok (.iload_n 1, 1) := by decide +kernel
theorem dX9_isPartOf_2 : decode cX9_isPartOf 2 = .ok (.invokevirtual 268, 3) := by decide +kernel
theorem dX9_isPartOf_5 : decode cX9_isPartOf 5 = .ok (.ifCond .eq 34, 3) := by decide +kernel
theorem dX9_isPartOf_8 : decode cX9_isPartOf 8 = .ok (.aload_n 0, 1) := by decide +kernel
theorem dX9_isPartOf_9 : decode cX9_isPartOf 9 = .ok (.iload_n 2, 1) := by decide +kernel
theorem dX9_isPartOf_10 : decode cX9_isPartOf 10 = .ok (.ifCond .lt 17, 3) := by decide +kernel
theorem dX9_isPartOf_13 : decode cX9_isPartOf 13 = .ok (.iload_n 2, 1) := by decide +kernel
theorem dX9_isPartOf_14 : decode cX9_isPartOf 14 = .ok (.aload_n 0, 1) := by decide +kernel
theorem dX9_isPartOf_15 : decode cX9_isPartOf 15 = .ok (.getfield 82, 3) := by decide +kernel
theorem dX9_isPartOf_18 : decode cX9_isPartOf 18 = .ok (.iload_n 1, 1) := by decide +kernel
theorem dX9_isPartOf_19 : decode cX9_isPartOf 19 = .ok (.iaload, 1) := by decide +kernel
theorem dX9_isPartOf_20 : decode cX9_isPartOf 20 = .ok (.if_icmp .ge 7, 3) := by decide +kernel
theorem dX9_isPartOf_23 : decode cX9_isPartOf 23 = .ok (.iconst 1, 1) := by decide +kernel
theorem dX9_isPartOf_24 : decode cX9_isPartOf 24 = .ok (.goto 4, 3) := by decide +kernel
theorem dX9_isPartOf_27 : decode cX9_isPartOf 27 = .ok (.iconst 0, 1) := by decide +kernel
theorem dX9_isPartOf_28 : decode cX9_isPartOf 28 = .ok (.iconst 1, 1) := by decide +kernel
theorem dX9_isPartOf_29 : decode cX9_isPartOf 29 = .ok (.invokevirtual 151, 3) := by decide +kernel
theorem dX9_isPartOf_32 : decode cX9_isPartOf 32 = .ok (.ifCond .eq 7, 3) := by decide +kernel
theorem dX9_isPartOf_35 : decode cX9_isPartOf 35 = .ok (.iconst 1, 1) := by decide +kernel
theorem dX9_isPartOf_36 : decode cX9_isPartOf 36 = .ok (.goto 4, 3) := by decide +kernel
theorem dX9_isPartOf_39 : decode cX9_isPartOf 39 = .ok (.iconst 0, 1) := by decide +kernel
theorem dX9_isPartOf_40 : decode cX9_isPartOf 40 = .ok (.ireturn, 1) := by decide +kernel
theorem dX9_hinders_0 : decode cX9_hinders 0 = .ok (.aload_n 0, 1) := by decide +kernel
theorem dX9_hinders_1 : decode cX9_hinders 1 = .ok (.iconst 0, 1) := by decide +kernel
theorem dX9_hinders_2 : decode cX9_hinders 2 = .ok (.putfield 1, 3) := by decide +kernel
theorem dX9_hinders_5 : decode cX9_hinders 5 = .ok (.aload_n 0, 1) := by decide +kernel
theorem dX9_hinders_6 : decode cX9_hinders 6 = .ok (.iload_n 1, 1) := by decide +kernel
theorem dX9_hinders_7 : decode cX9_hinders 7 = .ok (.iload_n 2, 1) := by decide +kernel
theorem dX9_hinders_8 : decode cX9_hinders 8 = .ok (.invokevirtual 280, 3) := by decide +kernel
theorem dX9_hinders_11 : decode cX9_hinders 11 = .ok (.ifCond .eq 12, 3) := by decide +kernel
theorem dX9_hinders_14 : decode cX9_hinders 14 = .ok (.aload_n 0, 1) := by decide +kernel
theorem dX9_hinders_15 : decode cX9_hinders 15 = .ok (.iload_n 1, 1) := by decide +kernel
theorem dX9_hinders_16 : decode cX9_hinders 16 = .ok (.iload_n 2, 1) := by decide +kernel
theorem dX9_hinders_17 : decode cX9_hinders 17 = .ok (.invokevirtual 283, 3) := by decide +kernel
theorem dX9_hinders_20 : decode cX9_hinders 20 = .ok (.goto 4, 3) := by decide +kernel
theorem dX9_hinders_23 : decode cX9_hinders 23 = .ok (.iconst 0, 1) := by decide +kernel
theorem dX9_hinders_24 : decode cX9_hinders 24 = .ok (.ireturn, 1) := by decide +kernel
theorem dX9_take_0 : decode cX9_take 0 = .ok (.aload_n 0, 1) := by decide +kernel
theorem dX9_take_1 : decode cX9_take 1 = .ok (.iconst 0, 1) := by decide +kernel
theorem dX9_take_2 : decode cX9_take 2 = .ok (.putfield 1, 3) := by decide +kernel
theorem dX9_take_5 : decode cX9_take 5 = .ok (.aload_n 0, 1) := by decide +kernel
theorem dX9_take_6 : decode cX9_take 6 = .ok (.iload_n 1, 1) := by decide +kernel
theorem dX9_take_7 : decode cX9_take 7 = .ok (.iload_n 2, 1) := by decide +kernel
theorem dX9_take_8 : decode cX9_take 8 = .ok (.invokevirtual 280, 3) := by decide +kernel
theorem dX9_take_11 : decode cX9_take 11 = .ok (.ifCond .ne 5, 3) := by decide +kernel
theorem dX9_take_14 : decode cX9_take 14 = .ok (.iconst 0, 1) := by decide +kernel
theorem dX9_take_15 : decode cX9_take 15 = .ok (.ireturn, 1) := by decide +kernel
theorem dX9_take_16 : decode cX9_take 16 = .ok (.aload_n 0, 1) := by decide +kernel
theorem dX9_take_17 : decode cX9_take 17 = .ok (.iload_n 1, 1) := by decide +kernel
theorem dX9_take_18 : decode cX9_take 18 = .ok (.iload_n 2, 1) := by decide +kernel
theorem dX9_take_19 : decode cX9_take 19 = .ok (.invokevirtual 283, 3) := by decide +kernel
theorem dX9_take_22 : decode cX9_take 22 = .ok (.istore_n 3, 1) := by decide +kernel
theorem dX9_take_23 : decode cX9_take 23 = .ok (.iload_n 3, 1) := by decide +kernel
theorem dX9_take_24 : decode cX9_take 24 = .ok (.ifCond .le 6, 3) := by decide +kernel
theorem dX9_take_27 : decode cX9_take 27 = .ok (.iload_n 3, 1) := by decide +kernel
theorem dX9_take_28 : decode cX9_take 28 = .ok (.ineg, 1) := by decide +kernel
theorem dX9_take_29 : decode cX9_take 29 = .ok (.ireturn, 1) := by decide +kernel
theorem dX9_take_30 : decode cX9_take 30 = .ok (.aload_n 0, 1) := by decide +kernel
theorem dX9_take_31 : decode cX9_take 31 = .ok (.getfield 277, 3) := by decide +kernel
theorem dX9_take_34 : decode cX9_take 34 = .ok (.istore 4, 2) := by decide +kernel
theorem dX9_take_36 : decode cX9_take 36 = .ok (.aload_n 0, 1) := by decide +kernel
theorem dX9_take_37 : decode cX9_take 37 = .ok (.getfield 124, 3) := by decide +kernel
theorem dX9_take_40 : decode cX9_take 40 = .ok (.iload 4, 2) := by decide +kernel
theorem dX9_take_42 : decode cX9_take 42 = .ok (.iload_n 1, 1) := by decide +kernel
theorem dX9_take_43 : decode cX9_take 43 = .ok (.iastore, 1) := by decide +kernel
theorem dX9_take_44 : decode cX9_take 44 = .ok (.aload_n 0, 1) := by decide +kernel
theorem dX9_take_45 : decode cX9_take 45 = .ok (.getfield 127, 3) := by decide +kernel
theorem dX9_take_48 : decode cX9_take 48 = .ok (.iload 4, 2) := by decide +kernel
theorem dX9_take_50 : decode cX9_take 50 = .ok (.iload_n 2, 1) := by decide +kernel
theorem dX9_take_51 : decode cX9_take 51 = .ok (.iastore, 1) := by decide +kernel
theorem dX9_take_52 : decode cX9_take 52 = .ok (.aload_n 0, 1) := by decide +kernel
theorem dX9_take_53 : decode cX9_take 53 = .ok (.getfield 130, 3) := by decide +kernel
theorem dX9_take_56 : decode cX9_take 56 = .ok (.iload 4, 2) := by decide +kernel
theorem dX9_take_58 : decode cX9_take 58 = .ok (.iconst 0, 1) := by decide +kernel
theorem dX9_take_59 : decode cX9_take 59 = .ok (.iastore, 1) := by decide +kernel
theorem dX9_take_60 : decode cX9_take 60 = .ok (.aload_n 0, 1) := by decide +kernel
theorem dX9_take_61 : decode cX9_take 61 = .ok (.getfield 133, 3) := by decide +kernel
theorem dX9_take_64 : decode cX9_take 64 = .ok (.iload 4, 2) := by decide +kernel
theorem dX9_take_66 : decode cX9_take 66 = .ok (.aload_n 0, 1) := by decide +kernel
theorem dX9_take_67 : decode cX9_take 67 = .ok (.getfield 248, 3) := by decide +kernel
theorem dX9_take_70 : decode cX9_take 70 = .ok (.iastore, 1) := by decide +kernel
theorem dX9_take_71 : decode cX9_take 71 = .ok (.aload_n 0, 1) := by decide +kernel
theorem dX9_take_72 : decode cX9_take 72 = .ok (.getfield 136, 3) := by decide +kernel
theorem dX9_take_75 : decode cX9_take 75 = .ok (.iload 4, 2) := by decide +kernel
theorem dX9_take_77 : decode cX9_take 77 = .ok (.iconst 0, 1) := by decide +kernel
theorem dX9_take_78 : decode cX9_take 78 = .ok (.iastore, 1) := by decide +kernel
theorem dX9_take_79 : decode cX9_take 79 = .ok (.aload_n 0, 1) := by decide +kernel
theorem dX9_take_80 : decode cX9_take 80 = .ok (.dup, 1) := by decide +kernel
theorem dX9_take_81 : decode cX9_take 81 = .ok (.getfield 277, 3) := by decide +kernel
theorem dX9_take_84 : decode cX9_take 84 = .ok (.iconst 1, 1) := by decide +kernel
theorem dX9_take_85 : decode cX9_take 85 = .ok (.iadd, 1) := by decide +kernel
theorem dX9_take_86 : decode cX9_take 86 = .ok (.putfield 277, 3) := by decide +kernel
theorem dX9_take_89 : decode cX9_take 89 = .ok (.aload_n 0, 1) := by decide +kernel
theorem dX9_take_90 : decode cX9_take 90 = .ok (.dup, 1) := by decide +kernel
theorem dX9_take_91 : decode cX9_take 91 = .ok (.getfield 258, 3) := by decide +kernel
theorem dX9_take_94 : decode cX9_take 94 = .ok (.iconst 1, 1) := by decide +kernel
theorem dX9_take_95 : decode cX9_take 95 = .ok (.iadd, 1) := by decide +kernel
theorem dX9_take_96 : decode cX9_take 96 = .ok (.putfield 258, 3) := by decide +kernel
theorem dX9_take_99 : decode cX9_take 99 = .ok (.aload_n 0, 1) := by decide +kernel
theorem dX9_take_100 : decode cX9_take 100 = .ok (.getfield 85, 3) := by decide +kernel
theorem dX9_take_103 : decode cX9_take 103 = .ok (.iload_n 1, 1) := by decide +kernel
theorem dX9_take_104 : decode cX9_take 104 = .ok (.dup2, 1) := by decide +kernel
theorem dX9_take_105 : decode cX9_take 105 = .ok (.iaload, 1) := by decide +kernel
theorem dX9_take_106 : decode cX9_take 106 = .ok (.iconst 1, 1) := by decide +kernel
theorem dX9_take_107 : decode cX9_take 107 = .ok (.iload_n 2, 1) := by decide +kernel
theorem dX9_take_108 : decode cX9_take 108 = .ok (.ishl, 1) := by decide +kernel
theorem dX9_take_109 : decode cX9_take 109 = .ok (.iconst (-1), 1) := by decide +kernel
theorem dX9_take_110 : decode cX9_take 110 = .ok (.ixor, 1) := by decide +kernel
theorem dX9_take_111 : decode cX9_take 111 = .ok (.iand, 1) := by decide +kernel
theorem dX9_take_112 : decode cX9_take 112 = .ok (.iastore, 1) := by decide +kernel
theorem dX9_take_113 : decode cX9_take 113 = .ok (.aload_n 0, 1) := by decide +kernel
theorem dX9_take_114 : decode cX9_take 114 = .ok (.getfield 109, 3) := by decide +kernel
theorem dX9_take_117 : decode cX9_take 117 = .ok (.aload_n 0, 1) := by decide +kernel
theorem dX9_take_118 : decode cX9_take 118 = .ok (.iload 4, 2) := by decide +kernel
theorem dX9_take_120 : decode cX9_take 120 = .ok (.invokevirtual 251, 3) := by decide +kernel
theorem dX9_take_123 : decode cX9_take 123 = .ok (.dup2, 1) := by decide +kernel
theorem dX9_take_124 : decode cX9_take 124 = .ok (.laload, 1) := by decide +kernel
theorem dX9_take_125 : decode cX9_take 125 = .ok (.aload_n 0, 1) := by decide +kernel
theorem dX9_take_126 : decode cX9_take 126 = .ok (.iload 4, 2) := by decide +kernel
theorem dX9_take_128 : decode cX9_take 128 = .ok (.invokevirtual 255, 3) := by decide +kernel
theorem dX9_take_131 : decode cX9_take 131 = .ok (.i2l, 1) := by decide +kernel
theorem dX9_take_132 : decode cX9_take 132 = .ok (.ladd, 1) := by decide +kernel
theorem dX9_take_133 : decode cX9_take 133 = .ok (.lastore, 1) := by decide +kernel
theorem dX9_take_134 : decode cX9_take 134 = .ok (.aload_n 0, 1) := by decide +kernel
theorem dX9_take_135 : decode cX9_take 135 = .ok (.iconst 3, 1) := by decide +kernel
theorem dX9_take_136 : decode cX9_take 136 = .ok (.iload_n 1, 1) := by decide +kernel
theorem dX9_take_137 : decode cX9_take 137 = .ok (.iload 4, 2) := by decide +kernel
theorem dX9_take_139 : decode cX9_take 139 = .ok (.invokevirtual 271, 3) := by decide +kernel
theorem dX9_take_142 : decode cX9_take 142 = .ok (.iload 4, 2) := by decide +kernel
theorem dX9_take_144 : decode cX9_take 144 = .ok (.ireturn, 1) := by decide +kernel
theorem dX9_press_0 : decode cX9_press 0 = .ok (.aload_n 0, 1) := by decide +kernel
theorem dX9_press_1 : decode cX9_press 1 = .ok (.iconst 0, 1) := by decide +kernel
theorem dX9_press_2 : decode cX9_press 2 = .ok (.putfield 1, 3) := by decide +kernel
theorem dX9_press_5 : decode cX9_press 5 = .ok (.aload_n 0, 1) := by decide +kernel
theorem dX9_press_6 : decode cX9_press 6 = .ok (.iload_n 1, 1) := by decide +kernel
theorem dX9_press_7 : decode cX9_press 7 = .ok (.invokevirtual 268, 3) := by decide +kernel
theorem dX9_press_10 : decode cX9_press 10 = .ok (.ifCond .ne 5, 3) := by decide +kernel
theorem dX9_press_13 : decode cX9_press 13 = .ok (.iconst 0, 1) := by decide +kernel
theorem dX9_press_14 : decode cX9_press 14 = .ok (.ireturn, 1) := by decide +kernel
theorem dX9_press_15 : decode cX9_press 15 = .ok (.aload_n 0, 1) := by decide +kernel
theorem dX9_press_16 : decode cX9_press 16 = .ok (.getfield 97, 3) := by decide +kernel
theorem dX9_press_19 : decode cX9_press 19 = .ok (.iload_n 1, 1) := by decide +kernel
theorem dX9_press_20 : decode cX9_press 20 = .ok (.baload, 1) := by decide +kernel
theorem dX9_press_21 : decode cX9_press 21 = .ok (.ifCond .eq 5, 3) := by decide +kernel
theorem dX9_press_24 : decode cX9_press 24 = .ok (.iconst (-1), 1) := by decide +kernel
theorem dX9_press_25 : decode cX9_press 25 = .ok (.ireturn, 1) := by decide +kernel
theorem dX9_press_26 : decode cX9_press 26 = .ok (.aload_n 0, 1) := by decide +kernel
theorem dX9_press_27 : decode cX9_press 27 = .ok (.getfield 91, 3) := by decide +kernel
theorem dX9_press_30 : decode cX9_press 30 = .ok (.iload_n 1, 1) := by decide +kernel
theorem dX9_press_31 : decode cX9_press 31 = .ok (.baload, 1) := by decide +kernel
theorem dX9_press_32 : decode cX9_press 32 = .ok (.ifCond .ne 6, 3) := by decide +kernel
theorem dX9_press_35 : decode cX9_press 35 = .ok (.bipush (-2), 2) := by decide +kernel
theorem dX9_press_37 : decode cX9_press 37 = .ok (.ireturn, 1) := by decide +kernel
theorem dX9_press_38 : decode cX9_press 38 = .ok (.aload_n 0, 1) := by decide +kernel
theorem dX9_press_39 : decode cX9_press 39 = .ok (.getfield 94, 3) := by decide +kernel
theorem dX9_press_42 : decode cX9_press 42 = .ok (.iload_n 1, 1) := by decide +kernel
theorem dX9_press_43 : decode cX9_press 43 = .ok (.baload, 1) := by decide +kernel
theorem dX9_press_44 : decode cX9_press 44 = .ok (.ifCond .ne 6, 3) := by decide +kernel
theorem dX9_press_47 : decode cX9_press 47 = .ok (.bipush (-3), 2) := by decide +kernel
theorem dX9_press_49 : decode cX9_press 49 = .ok (.ireturn, 1) := by decide +kernel
theorem dX9_press_50 : decode cX9_press 50 = .ok (.bipush 24, 2) := by decide +kernel
theorem dX9_press_52 : decode cX9_press 52 = .ok (.aload_n 0, 1) := by decide +kernel
theorem dX9_press_53 : decode cX9_press 53 = .ok (.getfield 73, 3) := by decide +kernel
theorem dX9_press_56 : decode cX9_press 56 = .ok (.iload_n 1, 1) := by decide +kernel
theorem dX9_press_57 : decode cX9_press 57 = .ok (.iaload, 1) := by decide +kernel
theorem dX9_press_58 : decode cX9_press 58 = .ok (.imul, 1) := by decide +kernel
theorem dX9_press_59 : decode cX9_press 59 = .ok (.istore_n 2, 1) := by decide +kernel
theorem dX9_press_60 : decode cX9_press 60 = .ok (.iconst 0, 1) := by decide +kernel
theorem dX9_press_61 : decode cX9_press 61 = .ok (.istore_n 3, 1) := by decide +kernel
theorem dX9_press_62 : decode cX9_press 62 = .ok (.iload_n 3, 1) := by decide +kernel
theorem dX9_press_63 : decode cX9_press 63 = .ok (.aload_n 0, 1) := by decide +kernel
theorem dX9_press_64 : decode cX9_press 64 = .ok (.getfield 82, 3) := by decide +kernel
theorem dX9_press_67 : decode cX9_press 67 = .ok (.iload_n 1, 1) := by decide +kernel
theorem dX9_press_68 : decode cX9_press 68 = .ok (.iaload, 1) := by decide +kernel
theorem dX9_press_69 : decode cX9_press 69 = .ok (.if_icmp .ge 33, 3) := by decide +kernel
theorem dX9_press_72 : decode cX9_press 72 = .ok (.aload_n 0, 1) := by decide +kernel
theorem dX9_press_73 : decode cX9_press 73 = .ok (.iload_n 1, 1) := by decide +kernel
theorem dX9_press_74 : decode cX9_press 74 = .ok (.iload_n 3, 1) := by decide +kernel
theorem dX9_press_75 : decode cX9_press 75 = .ok (.invokevirtual 264, 3) := by decide +kernel
theorem dX9_press_78 : decode cX9_press 78 = .ok (.ifCond .eq 18, 3) := by decide +kernel
theorem dX9_press_81 : decode cX9_press 81 = .ok (.aload_n 0, 1) := by decide +kernel
theorem dX9_press_82 : decode cX9_press 82 = .ok (.getfield 49, 3) := by decide +kernel
theorem dX9_press_85 : decode cX9_press 85 = .ok (.iload_n 2, 1) := by decide +kernel
theorem dX9_press_86 : decode cX9_press 86 = .ok (.iload_n 3, 1) := by decide +kernel
theorem dX9_press_87 : decode cX9_press 87 = .ok (.iadd, 1) := by decide +kernel
theorem dX9_press_88 : decode cX9_press 88 = .ok (.iaload, 1) := by decide +kernel
theorem dX9_press_89 : decode cX9_press 89 = .ok (.iconst 4, 1) := by decide +kernel
theorem dX9_press_90 : decode cX9_press 90 = .ok (.if_icmp .ne 6, 3) := by decide +kernel
theorem dX9_press_93 : decode cX9_press 93 = .ok (.bipush (-4), 2) := by decide +kernel
theorem dX9_press_95 : decode cX9_press 95 = .ok (.ireturn, 1) := by decide +kernel
theorem dX9_press_96 : decode cX9_press 96 = .ok (.iinc 3 1, 3) := by decide +kernel
theorem dX9_press_99 : decode cX9_press 99 = .ok (.goto (-37), 3) := by decide +kernel
theorem dX9_press_102 : decode cX9_press 102 = .ok (.iconst 0, 1) := by decide +kernel
theorem dX9_press_103 : decode cX9_press 103 = .ok (.istore_n 3, 1) := by decide +kernel
theorem dX9_press_104 : decode cX9_press 104 = .ok (.iconst 0, 1) := by decide +kernel
theorem dX9_press_105 : decode cX9_press 105 = .ok (.istore 4, 2) := by decide +kernel
theorem dX9_press_107 : decode cX9_press 107 = .ok (.iload 4, 2) := by decide +kernel
theorem dX9_press_109 : decode cX9_press 109 = .ok (.aload_n 0, 1) := by decide +kernel
theorem dX9_press_110 : decode cX9_press 110 = .ok (.getfield 82, 3) := by decide +kernel
theorem dX9_press_113 : decode cX9_press 113 = .ok (.iload_n 1, 1) := by decide +kernel
theorem dX9_press_114 : decode cX9_press 114 = .ok (.iaload, 1) := by decide +kernel
theorem dX9_press_115 : decode cX9_press 115 = .ok (.if_icmp .ge 61, 3) := by decide +kernel
theorem dX9_press_118 : decode cX9_press 118 = .ok (.aload_n 0, 1) := by decide +kernel
theorem dX9_press_119 : decode cX9_press 119 = .ok (.iload_n 1, 1) := by decide +kernel
theorem dX9_press_120 : decode cX9_press 120 = .ok (.iload 4, 2) := by decide +kernel
theorem dX9_press_122 : decode cX9_press 122 = .ok (.invokevirtual 264, 3) := by decide +kernel
theorem dX9_press_125 : decode cX9_press 125 = .ok (.ifCond .ne 6, 3) := by decide +kernel
theorem dX9_press_128 : decode cX9_press 128 = .ok (.goto 42, 3) := by decide +kernel
theorem dX9_press_131 : decode cX9_press 131 = .ok (.iload_n 3, 1) := by decide +kernel
theorem dX9_press_132 : decode cX9_press 132 = .ok (.aload_n 0, 1) := by decide +kernel
theorem dX9_press_133 : decode cX9_press 133 = .ok (.getfield 61, 3) := by decide +kernel
theorem dX9_press_136 : decode cX9_press 136 = .ok (.iload_n 2, 1) := by decide +kernel
theorem dX9_press_137 : decode cX9_press 137 = .ok (.iload 4, 2) := by decide +kernel
theorem dX9_press_139 : decode cX9_press 139 = .ok (.iadd, 1) := by decide +kernel
theorem dX9_press_140 : decode cX9_press 140 = .ok (.iaload, 1) := by decide +kernel
theorem dX9_press_141 : decode cX9_press 141 = .ok (.iadd, 1) := by decide +kernel
theorem dX9_press_142 : decode cX9_press 142 = .ok (.istore_n 3, 1) := by decide +kernel
theorem dX9_press_143 : decode cX9_press 143 = .ok (.aload_n 0, 1) := by decide +kernel
theorem dX9_press_144 : decode cX9_press 144 = .ok (.getfield 106, 3) := by decide +kernel
theorem dX9_press_147 : decode cX9_press 147 = .ok (.aload_n 0, 1) := by decide +kernel
theorem dX9_press_148 : decode cX9_press 148 = .ok (.getfield 64, 3) := by decide +kernel
theorem dX9_press_151 : decode cX9_press 151 = .ok (.iload_n 2, 1) := by decide +kernel
theorem dX9_press_152 : decode cX9_press 152 = .ok (.iload 4, 2) := by decide +kernel
theorem dX9_press_154 : decode cX9_press 154 = .ok (.iadd, 1) := by decide +kernel
theorem dX9_press_155 : decode cX9_press 155 = .ok (.iaload, 1) := by decide +kernel
theorem dX9_press_156 : decode cX9_press 156 = .ok (.dup2, 1) := by decide +kernel
theorem dX9_press_157 : decode cX9_press 157 = .ok (.laload, 1) := by decide +kernel
theorem dX9_press_158 : decode cX9_press 158 = .ok (.aload_n 0, 1) := by decide +kernel
theorem dX9_press_159 : decode cX9_press 159 = .ok (.getfield 61, 3) := by decide +kernel
theorem dX9_press_162 : decode cX9_press 162 = .ok (.iload_n 2, 1) := by decide +kernel
theorem dX9_press_163 : decode cX9_press 163 = .ok (.iload 4, 2) := by decide +kernel
theorem dX9_press_165 : decode cX9_press 165 = .ok (.iadd, 1) := by decide +kernel
theorem dX9_press_166 : decode cX9_press 166 = .ok (.iaload, 1) := by decide +kernel
theorem dX9_press_167 : decode cX9_press 167 = .ok (.i2l, 1) := by decide +kernel
theorem dX9_press_168 : decode cX9_press 168 = .ok (.ladd, 1) := by decide +kernel
theorem dX9_press_169 : decode cX9_press 169 = .ok (.lastore, 1) := by decide +kernel
theorem dX9_press_170 : decode cX9_press 170 = .ok (.iinc 4 1, 3) := by decide +kernel
theorem dX9_press_173 : decode cX9_press 173 = .ok (.goto (-66), 3) := by decide +kernel
theorem dX9_press_176 : decode cX9_press 176 = .ok (.aload_n 0, 1) := by decide +kernel
theorem dX9_press_177 : decode cX9_press 177 = .ok (.getfield 85, 3) := by decide +kernel
theorem dX9_press_180 : decode cX9_press 180 = .ok (.iload_n 1, 1) := by decide +kernel
theorem dX9_press_181 : decode cX9_press 181 = .ok (.iconst 0, 1) := by decide +kernel
theorem dX9_press_182 : decode cX9_press 182 = .ok (.iastore, 1) := by decide +kernel
theorem dX9_press_183 : decode cX9_press 183 = .ok (.aload_n 0, 1) := by decide +kernel
theorem dX9_press_184 : decode cX9_press 184 = .ok (.getfield 97, 3) := by decide +kernel
theorem dX9_press_187 : decode cX9_press 187 = .ok (.iload_n 1, 1) := by decide +kernel
theorem dX9_press_188 : decode cX9_press 188 = .ok (.iconst 1, 1) := by decide +kernel
theorem dX9_press_189 : decode cX9_press 189 = .ok (.bastore, 1) := by decide +kernel
theorem dX9_press_190 : decode cX9_press 190 = .ok (.aload_n 0, 1) := by decide +kernel
theorem dX9_press_191 : decode cX9_press 191 = .ok (.iconst 0, 1) := by decide +kernel
theorem dX9_press_192 : decode cX9_press 192 = .ok (.putfield 241, 3) := by decide +kernel
theorem dX9_press_195 : decode cX9_press 195 = .ok (.iload_n 3, 1) := by decide +kernel
theorem dX9_press_196 : decode cX9_press 196 = .ok (.ireturn, 1) := by decide +kernel
theorem dX9_day_0 : decode cX9_day 0 = .ok (.aload_n 0, 1) := by decide +kernel
theorem dX9_day_1 : decode cX9_day 1 = .ok (.iconst 0, 1) := by decide +kernel
theorem dX9_day_2 : decode cX9_day 2 = .ok (.putfield 1, 3) := by decide +kernel
theorem dX9_day_5 : decode cX9_day 5 = .ok (.aload_n 0, 1) := by decide +kernel
theorem dX9_day_6 : decode cX9_day 6 = .ok (.iload_n 1, 1) := by decide +kernel
theorem dX9_day_7 : decode cX9_day 7 = .ok (.ifCond .lt 14, 3) := by decide +kernel
theorem dX9_day_10 : decode cX9_day 10 = .ok (.iload_n 1, 1) := by decide +kernel
theorem dX9_day_11 : decode cX9_day 11 = .ok (.sipush 10000, 3) := by decide +kernel
theorem dX9_day_14 : decode cX9_day 14 = .ok (.if_icmp .gt 7, 3) := by decide +kernel
theorem dX9_day_17 : decode cX9_day 17 = .ok (.iconst 1, 1) := by decide +kernel
theorem dX9_day_18 : decode cX9_day 18 = .ok (.goto 4, 3) := by decide +kernel
theorem dX9_day_21 : decode cX9_day 21 = .ok (.iconst 0, 1) := by decide +kernel
theorem dX9_day_22 : decode cX9_day 22 = .ok (.iconst 1, 1) := by decide +kernel
theorem dX9_day_23 : decode cX9_day 23 = .ok (.invokevirtual 151, 3) := by decide +kernel
theorem dX9_day_26 : decode cX9_day 26 = .ok (.ifCond .eq 28, 3) := by decide +kernel
theorem dX9_day_29 : decode cX9_day 29 = .ok (.aload_n 0, 1) := by decide +kernel
theorem dX9_day_30 : decode cX9_day 30 = .ok (.aload_n 0, 1) := by decide +kernel
theorem dX9_day_31 : decode cX9_day 31 = .ok (.getfield 248, 3) := by decide +kernel
theorem dX9_day_34 : decode cX9_day 34 = .ok (.iload_n 1, 1) := by decide +kernel
theorem dX9_day_35 : decode cX9_day 35 = .ok (.iadd, 1) := by decide +kernel
theorem dX9_day_36 : decode cX9_day 36 = .ok (.ldc_w 287, 3) := by decide +kernel
theorem dX9_day_39 : decode cX9_day 39 = .ok (.if_icmp .gt 7, 3) := by decide +kernel
theorem dX9_day_42 : decode cX9_day 42 = .ok (.iconst 1, 1) := by decide +kernel
theorem dX9_day_43 : decode cX9_day 43 = .ok (.goto 4, 3) := by decide +kernel
theorem dX9_day_46 : decode cX9_day 46 = .ok (.iconst 0, 1) := by decide +kernel
theorem dX9_day_47 : decode cX9_day 47 = .ok (.iconst 2, 1) := by decide +kernel
theorem dX9_day_48 : decode cX9_day 48 = .ok (.invokevirtual 151, 3) := by decide +kernel
theorem dX9_day_51 : decode cX9_day 51 = .ok (.ifCond .ne 5, 3) := by decide +kernel
theorem dX9_day_54 : decode cX9_day 54 = .ok (.iconst 0, 1) := by decide +kernel
theorem dX9_day_55 : decode cX9_day 55 = .ok (.ireturn, 1) := by decide +kernel
theorem dX9_day_56 : decode cX9_day 56 = .ok (.aload_n 0, 1) := by decide +kernel
theorem dX9_day_57 : decode cX9_day 57 = .ok (.dup, 1) := by decide +kernel
theorem dX9_day_58 : decode cX9_day 58 = .ok (.getfield 248, 3) := by decide +kernel
theorem dX9_day_61 : decode cX9_day 61 = .ok (.iload_n 1, 1) := by decide +kernel
theorem dX9_day_62 : decode cX9_day 62 = .ok (.iadd, 1) := by decide +kernel
theorem dX9_day_63 : decode cX9_day 63 = .ok (.putfield 248, 3) := by decide +kernel
theorem dX9_day_66 : decode cX9_day 66 = .ok (.iload_n 1, 1) := by decide +kernel
theorem dX9_day_67 : decode cX9_day 67 = .ok (.ifCond .le 8, 3) := by decide +kernel
theorem dX9_day_70 : decode cX9_day 70 = .ok (.aload_n 0, 1) := by decide +kernel
theorem dX9_day_71 : decode cX9_day 71 = .ok (.iconst 0, 1) := by decide +kernel
theorem dX9_day_72 : decode cX9_day 72 = .ok (.putfield 241, 3) := by decide +kernel
theorem dX9_day_75 : decode cX9_day 75 = .ok (.aload_n 0, 1) := by decide +kernel
theorem dX9_day_76 : decode cX9_day 76 = .ok (.getfield 248, 3) := by decide +kernel
theorem dX9_day_79 : decode cX9_day 79 = .ok (.ireturn, 1) := by decide +kernel
theorem dX9_late_0 : decode cX9_late 0 = .ok (.aload_n 0, 1) := by decide +kernel
theorem dX9_late_1 : decode cX9_late 1 = .ok (.iconst 0, 1) := by decide +kernel
theorem dX9_late_2 : decode cX9_late 2 = .ok (.putfield 1, 3) := by decide +kernel
theorem dX9_late_5 : decode cX9_late 5 = .ok (.aload_n 0, 1) := by decide +kernel
theorem dX9_late_6 : decode cX9_late 6 = .ok (.iload_n 1, 1) := by decide +kernel
theorem dX9_late_7 : decode cX9_late 7 = .ok (.ifCond .eq 8, 3) := by decide +kernel
theorem dX9_late_10 : decode cX9_late 10 = .ok (.iload_n 1, 1) := by decide +kernel
theorem dX9_late_11 : decode cX9_late 11 = .ok (.iconst 1, 1) := by decide +kernel
theorem dX9_late_12 : decode cX9_late 12 = .ok (.if_icmp .ne 7, 3) := by decide +kernel
theorem dX9_late_15 : decode cX9_late 15 = .ok (.iconst 1, 1) := by decide +kernel
theorem dX9_late_16 : decode cX9_late 16 = .ok (.goto 4, 3) := by decide +kernel
theorem dX9_late_19 : decode cX9_late 19 = .ok (.iconst 0, 1) := by decide +kernel
theorem dX9_late_20 : decode cX9_late 20 = .ok (.iconst 1, 1) := by decide +kernel
theorem dX9_late_21 : decode cX9_late 21 = .ok (.invokevirtual 151, 3) := by decide +kernel
theorem dX9_late_24 : decode cX9_late 24 = .ok (.ifCond .ne 5, 3) := by decide +kernel
theorem dX9_late_27 : decode cX9_late 27 = .ok (.iconst 0, 1) := by decide +kernel
theorem dX9_late_28 : decode cX9_late 28 = .ok (.ireturn, 1) := by decide +kernel
theorem dX9_late_29 : decode cX9_late 29 = .ok (.iconst 0, 1) := by decide +kernel
theorem dX9_late_30 : decode cX9_late 30 = .ok (.istore_n 3, 1) := by decide +kernel
theorem dX9_late_31 : decode cX9_late 31 = .ok (.iconst 0, 1) := by decide +kernel
theorem dX9_late_32 : decode cX9_late 32 = .ok (.istore 4, 2) := by decide +kernel
theorem dX9_late_34 : decode cX9_late 34 = .ok (.iload 4, 2) := by decide +kernel
theorem dX9_late_36 : decode cX9_late 36 = .ok (.aload_n 0, 1) := by decide +kernel
theorem dX9_late_37 : decode cX9_late 37 = .ok (.getfield 261, 3) := by decide +kernel
theorem dX9_late_40 : decode cX9_late 40 = .ok (.if_icmp .ge 107, 3) := by decide +kernel
theorem dX9_late_43 : decode cX9_late 43 = .ok (.iload_n 1, 1) := by decide +kernel
theorem dX9_late_44 : decode cX9_late 44 = .ok (.ifCond .ne 37, 3) := by decide +kernel
theorem dX9_late_47 : decode cX9_late 47 = .ok (.aload_n 0, 1) := by decide +kernel
theorem dX9_late_48 : decode cX9_late 48 = .ok (.getfield 91, 3) := by decide +kernel
theorem dX9_late_51 : decode cX9_late 51 = .ok (.iload 4, 2) := by decide +kernel
theorem dX9_late_53 : decode cX9_late 53 = .ok (.baload, 1) := by decide +kernel
theorem dX9_late_54 : decode cX9_late 54 = .ok (.ifCond .ne 23, 3) := by decide +kernel
theorem dX9_late_57 : decode cX9_late 57 = .ok (.aload_n 0, 1) := by decide +kernel
theorem dX9_late_58 : decode cX9_late 58 = .ok (.getfield 248, 3) := by decide +kernel
theorem dX9_late_61 : decode cX9_late 61 = .ok (.aload_n 0, 1) := by decide +kernel
theorem dX9_late_62 : decode cX9_late 62 = .ok (.getfield 88, 3) := by decide +kernel
theorem dX9_late_65 : decode cX9_late 65 = .ok (.iload 4, 2) := by decide +kernel
theorem dX9_late_67 : decode cX9_late 67 = .ok (.iaload, 1) := by decide +kernel
theorem dX9_late_68 : decode cX9_late 68 = .ok (.isub, 1) := by decide +kernel
theorem dX9_late_69 : decode cX9_late 69 = .ok (.iconst 5, 1) := by decide +kernel
theorem dX9_late_70 : decode cX9_late 70 = .ok (.if_icmp .lt 7, 3) := by decide +kernel
theorem dX9_late_73 : decode cX9_late 73 = .ok (.iconst 1, 1) := by decide +kernel
theorem dX9_late_74 : decode cX9_late 74 = .ok (.goto 39, 3) := by decide +kernel
theorem dX9_late_77 : decode cX9_late 77 = .ok (.iconst 0, 1) := by decide +kernel
theorem dX9_late_78 : decode cX9_late 78 = .ok (.goto 35, 3) := by decide +kernel
theorem dX9_late_81 : decode cX9_late 81 = .ok (.aload_n 0, 1) := by decide +kernel
theorem dX9_late_82 : decode cX9_late 82 = .ok (.getfield 97, 3) := by decide +kernel
theorem dX9_late_85 : decode cX9_late 85 = .ok (.iload 4, 2) := by decide +kernel
theorem dX9_late_87 : decode cX9_late 87 = .ok (.baload, 1) := by decide +kernel
theorem dX9_late_88 : decode cX9_late 88 = .ok (.ifCond .ne 24, 3) := by decide +kernel
theorem dX9_late_91 : decode cX9_late 91 = .ok (.aload_n 0, 1) := by decide +kernel
theorem dX9_late_92 : decode cX9_late 92 = .ok (.getfield 248, 3) := by decide +kernel
theorem dX9_late_95 : decode cX9_late 95 = .ok (.aload_n 0, 1) := by decide +kernel
theorem dX9_late_96 : decode cX9_late 96 = .ok (.getfield 88, 3) := by decide +kernel
theorem dX9_late_99 : decode cX9_late 99 = .ok (.iload 4, 2) := by decide +kernel
theorem dX9_late_101 : decode cX9_late 101 = .ok (.iaload, 1) := by decide +kernel
theorem dX9_late_102 : decode cX9_late 102 = .ok (.isub, 1) := by decide +kernel
theorem dX9_late_103 : decode cX9_late 103 = .ok (.bipush 90, 2) := by decide +kernel
theorem dX9_late_105 : decode cX9_late 105 = .ok (.if_icmp .lt 7, 3) := by decide +kernel
theorem dX9_late_108 : decode cX9_late 108 = .ok (.iconst 1, 1) := by decide +kernel
theorem dX9_late_109 : decode cX9_late 109 = .ok (.goto 4, 3) := by decide +kernel
theorem dX9_late_112 : decode cX9_late 112 = .ok (.iconst 0, 1) := by decide +kernel
theorem dX9_late_113 : decode cX9_late 113 = .ok (.istore 5, 2) := by decide +kernel
theorem dX9_late_115 : decode cX9_late 115 = .ok (.iload 5, 2) := by decide +kernel
theorem dX9_late_117 : decode cX9_late 117 = .ok (.ifCond .eq 11, 3) := by decide +kernel
theorem dX9_late_120 : decode cX9_late 120 = .ok (.iload_n 3, 1) := by decide +kernel
theorem dX9_late_121 : decode cX9_late 121 = .ok (.iload_n 2, 1) := by decide +kernel
theorem dX9_late_122 : decode cX9_late 122 = .ok (.if_icmp .ne 6, 3) := by decide +kernel
theorem dX9_late_125 : decode cX9_late 125 = .ok (.iload 4, 2) := by decide +kernel
theorem dX9_late_127 : decode cX9_late 127 = .ok (.ireturn, 1) := by decide +kernel
theorem dX9_late_128 : decode cX9_late 128 = .ok (.iload_n 3, 1) := by decide +kernel
theorem dX9_late_129 : decode cX9_late 129 = .ok (.iload 5, 2) := by decide +kernel
theorem dX9_late_131 : decode cX9_late 131 = .ok (.ifCond .eq 7, 3) := by decide +kernel
theorem dX9_late_134 : decode cX9_late 134 = .ok (.iconst 1, 1) := by decide +kernel
theorem dX9_late_135 : decode cX9_late 135 = .ok (.goto 4, 3) := by decide +kernel
theorem dX9_late_138 : decode cX9_late 138 = .ok (.iconst 0, 1) := by decide +kernel
theorem dX9_late_139 : decode cX9_late 139 = .ok (.iadd, 1) := by decide +kernel
theorem dX9_late_140 : decode cX9_late 140 = .ok (.istore_n 3, 1) := by decide +kernel
theorem dX9_late_141 : decode cX9_late 141 = .ok (.iinc 4 1, 3) := by decide +kernel
theorem dX9_late_144 : decode cX9_late 144 = .ok (.goto (-110), 3) := by decide +kernel
theorem dX9_late_147 : decode cX9_late 147 = .ok (.iconst (-1), 1) := by decide +kernel
theorem dX9_late_148 : decode cX9_late 148 = .ok (.ireturn, 1) := by decide +kernel
theorem dX9_valueOf_0 : decode cX9_valueOf 0 = .ok (.aload_n 0, 1) := by decide +kernel
theorem dX9_valueOf_1 : decode cX9_valueOf 1 = .ok (.iload_n 1, 1) := by decide +kernel
theorem dX9_valueOf_2 : decode cX9_valueOf 2 = .ok (.invokevirtual 274, 3) := by decide +kernel
theorem dX9_valueOf_5 : decode cX9_valueOf 5 = .ok (.istore_n 2, 1) := by decide +kernel
theorem dX9_valueOf_6 : decode cX9_valueOf 6 = .ok (.aload_n 0, 1) := by decide +kernel
theorem dX9_valueOf_7 : decode cX9_valueOf 7 = .ok (.getfield 49, 3) := by decide +kernel
theorem dX9_valueOf_10 : decode cX9_valueOf 10 = .ok (.iload_n 2, 1) := by decide +kernel
theorem dX9_valueOf_11 : decode cX9_valueOf 11 = .ok (.iaload, 1) := by decide +kernel
theorem dX9_valueOf_12 : decode cX9_valueOf 12 = .ok (.iconst 2, 1) := by decide +kernel
theorem dX9_valueOf_13 : decode cX9_valueOf 13 = .ok (.if_icmp .ne 14, 3) := by decide +kernel
theorem dX9_valueOf_16 : decode cX9_valueOf 16 = .ok (.aload_n 0, 1) := by decide +kernel
theorem dX9_valueOf_17 : decode cX9_valueOf 17 = .ok (.getfield 67, 3) := by decide +kernel
theorem dX9_valueOf_20 : decode cX9_valueOf 20 = .ok (.iload_n 2, 1) := by decide +kernel
theorem dX9_valueOf_21 : decode cX9_valueOf 21 = .ok (.iaload, 1) := by decide +kernel
theorem dX9_valueOf_22 : decode cX9_valueOf 22 = .ok (.iconst 2, 1) := by decide +kernel
theorem dX9_valueOf_23 : decode cX9_valueOf 23 = .ok (.idiv, 1) := by decide +kernel
theorem dX9_valueOf_24 : decode cX9_valueOf 24 = .ok (.goto 9, 3) := by decide +kernel
theorem dX9_valueOf_27 : decode cX9_valueOf 27 = .ok (.aload_n 0, 1) := by decide +kernel
theorem dX9_valueOf_28 : decode cX9_valueOf 28 = .ok (.getfield 67, 3) := by decide +kernel
theorem dX9_valueOf_31 : decode cX9_valueOf 31 = .ok (.iload_n 2, 1) := by decide +kernel
theorem dX9_valueOf_32 : decode cX9_valueOf 32 = .ok (.iaload, 1) := by decide +kernel
theorem dX9_valueOf_33 : decode cX9_valueOf 33 = .ok (.istore_n 3, 1) := by decide +kernel
theorem dX9_valueOf_34 : decode cX9_valueOf 34 = .ok (.aload_n 0, 1) := by decide +kernel
theorem dX9_valueOf_35 : decode cX9_valueOf 35 = .ok (.getfield 248, 3) := by decide +kernel
theorem dX9_valueOf_38 : decode cX9_valueOf 38 = .ok (.aload_n 0, 1) := by decide +kernel
theorem dX9_valueOf_39 : decode cX9_valueOf 39 = .ok (.getfield 133, 3) := by decide +kernel
theorem dX9_valueOf_42 : decode cX9_valueOf 42 = .ok (.iload_n 1, 1) := by decide +kernel
theorem dX9_valueOf_43 : decode cX9_valueOf 43 = .ok (.iaload, 1) := by decide +kernel
theorem dX9_valueOf_44 : decode cX9_valueOf 44 = .ok (.isub, 1) := by decide +kernel
theorem dX9_valueOf_45 : decode cX9_valueOf 45 = .ok (.bipush 30, 2) := by decide +kernel
theorem dX9_valueOf_47 : decode cX9_valueOf 47 = .ok (.idiv, 1) := by decide +kernel
theorem dX9_valueOf_48 : decode cX9_valueOf 48 = .ok (.istore 4, 2) := by decide +kernel
theorem dX9_valueOf_50 : decode cX9_valueOf 50 = .ok (.iconst 0, 1) := by decide +kernel
theorem dX9_valueOf_51 : decode cX9_valueOf 51 = .ok (.istore 5, 2) := by decide +kernel
theorem dX9_valueOf_53 : decode cX9_valueOf 53 = .ok (.iload 5, 2) := by decide +kernel
theorem dX9_valueOf_55 : decode cX9_valueOf 55 = .ok (.iload 4, 2) := by decide +kernel
theorem dX9_valueOf_57 : decode cX9_valueOf 57 = .ok (.if_icmp .ge 23, 3) := by decide +kernel
theorem dX9_valueOf_60 : decode cX9_valueOf 60 = .ok (.iload 5, 2) := by decide +kernel
theorem dX9_valueOf_62 : decode cX9_valueOf 62 = .ok (.bipush 24, 2) := by decide +kernel
theorem dX9_valueOf_64 : decode cX9_valueOf 64 = .ok (.if_icmp .ge 16, 3) := by decide +kernel
theorem dX9_valueOf_67 : decode cX9_valueOf 67 = .ok (.iload_n 3, 1) := by decide +kernel
theorem dX9_valueOf_68 : decode cX9_valueOf 68 = .ok (.iload_n 3, 1) := by decide +kernel
theorem dX9_valueOf_69 : decode cX9_valueOf 69 = .ok (.bipush 8, 2) := by decide +kernel
theorem dX9_valueOf_71 : decode cX9_valueOf 71 = .ok (.idiv, 1) := by decide +kernel
theorem dX9_valueOf_72 : decode cX9_valueOf 72 = .ok (.isub, 1) := by decide +kernel
theorem dX9_valueOf_73 : decode cX9_valueOf 73 = .ok (.istore_n 3, 1) := by decide +kernel
theorem dX9_valueOf_74 : decode cX9_valueOf 74 = .ok (.iinc 5 1, 3) := by decide +kernel
theorem dX9_valueOf_77 : decode cX9_valueOf 77 = .ok (.goto (-24), 3) := by decide +kernel
theorem dX9_valueOf_80 : decode cX9_valueOf 80 = .ok (.iload_n 3, 1) := by decide +kernel
theorem dX9_valueOf_81 : decode cX9_valueOf 81 = .ok (.ireturn, 1) := by decide +kernel
theorem dX9_isItem_0 : decode cX9_isItem 0 = .ok (.aload_n 0, 1) := by decide +kernel
theorem dX9_isItem_1 : decode cX9_isItem 1 = .ok (.iload_n 1, 1) := by decide +kernel
theorem dX9_isItem_2 : decode cX9_isItem 2 = .ok (.ifCond .lt 15, 3) := by decide +kernel
theorem dX9_isItem_5 : decode cX9_isItem 5 = .ok (.iload_n 1, 1) := by decide +kernel
theorem dX9_isItem_6 : decode cX9_isItem 6 = .ok (.aload_n 0, 1) := by decide +kernel
theorem dX9_isItem_7 : decode cX9_isItem 7 = .ok (.getfield 277, 3) := by decide +kernel
theorem dX9_isItem_10 : decode cX9_isItem 10 = .ok (.if_icmp .ge 7, 3) := by decide +kernel
theorem dX9_isItem_13 : decode cX9_isItem 13 = .ok (.iconst 1, 1) := by decide +kernel
theorem dX9_isItem_14 : decode cX9_isItem 14 = .ok (.goto 4, 3) := by decide +kernel
theorem dX9_isItem_17 : decode cX9_isItem 17 = .ok (.iconst 0, 1) := by decide +kernel
theorem dX9_isItem_18 : decode cX9_isItem 18 = .ok (.iconst 1, 1) := by decide +kernel
theorem dX9_isItem_19 : decode cX9_isItem 19 = .ok (.invokevirtual 151, 3) := by decide +kernel
theorem dX9_isItem_22 : decode cX9_isItem 22 = .ok (.ireturn, 1) := by decide +kernel
theorem dX9_item_0 : decode cX9_item 0 = .ok (.aload_n 0, 1) := by decide +kernel
theorem dX9_item_1 : decode cX9_item 1 = .ok (.iconst 0, 1) := by decide +kernel
theorem dX9_item_2 : decode cX9_item 2 = .ok (.putfield 1, 3) := by decide +kernel
theorem dX9_item_5 : decode cX9_item 5 = .ok (.aload_n 0, 1) := by decide +kernel
theorem dX9_item_6 : decode cX9_item 6 = .ok (.iload_n 1, 1) := by decide +kernel
theorem dX9_item_7 : decode cX9_item 7 = .ok (.invokevirtual 288, 3) := by decide +kernel
theorem dX9_item_10 : decode cX9_item 10 = .ok (.ifCond .eq 25, 3) := by decide +kernel
theorem dX9_item_13 : decode cX9_item 13 = .ok (.aload_n 0, 1) := by decide +kernel
theorem dX9_item_14 : decode cX9_item 14 = .ok (.iload_n 2, 1) := by decide +kernel
theorem dX9_item_15 : decode cX9_item 15 = .ok (.ifCond .lt 12, 3) := by decide +kernel
theorem dX9_item_18 : decode cX9_item 18 = .ok (.iload_n 2, 1) := by decide +kernel
theorem dX9_item_19 : decode cX9_item 19 = .ok (.iconst 4, 1) := by decide +kernel
theorem dX9_item_20 : decode cX9_item 20 = .ok (.if_icmp .gt 7, 3) := by decide +kernel
theorem dX9_item_23 : decode cX9_item 23 = .ok (.iconst 1, 1) := by decide +kernel
theorem dX9_item_24 : decode cX9_item 24 = .ok (.goto 4, 3) := by decide +kernel
theorem dX9_item_27 : decode cX9_item 27 = .ok (.iconst 0, 1) := by decide +kernel
theorem dX9_item_28 : decode cX9_item 28 = .ok (.iconst 2, 1) := by decide +kernel
theorem dX9_item_29 : decode cX9_item 29 = .ok (.invokevirtual 151, 3) := by decide +kernel
theorem dX9_item_32 : decode cX9_item 32 = .ok (.ifCond .ne 5, 3) := by decide +kernel
theorem dX9_item_35 : decode cX9_item 35 = .ok (.iconst 0, 1) := by decide +kernel
theorem dX9_item_36 : decode cX9_item 36 = .ok (.ireturn, 1) := by decide +kernel
theorem dX9_item_37 : decode cX9_item 37 = .ok (.iload_n 2, 1) := by decide +kernel
theorem dX9_item_38 : decode cX9_item 38 = .ok (.tableswitch 89 0 3 #[30, 37, 44, 51], 30) := by decide +kernel
theorem dX9_item_68 : decode cX9_item 68 = .ok (.aload_n 0, 1) := by decide +kernel
theorem dX9_item_69 : decode cX9_item 69 = .ok (.getfield 124, 3) := by decide +kernel
theorem dX9_item_72 : decode cX9_item 72 = .ok (.iload_n 1, 1) := by decide +kernel
theorem dX9_item_73 : decode cX9_item 73 = .ok (.iaload, 1) := by decide +kernel
theorem dX9_item_74 : decode cX9_item 74 = .ok (.ireturn, 1) := by decide +kernel
theorem dX9_item_75 : decode cX9_item 75 = .ok (.aload_n 0, 1) := by decide +kernel
theorem dX9_item_76 : decode cX9_item 76 = .ok (.getfield 127, 3) := by decide +kernel
theorem dX9_item_79 : decode cX9_item 79 = .ok (.iload_n 1, 1) := by decide +kernel
theorem dX9_item_80 : decode cX9_item 80 = .ok (.iaload, 1) := by decide +kernel
theorem dX9_item_81 : decode cX9_item 81 = .ok (.ireturn, 1) := by decide +kernel
theorem dX9_item_82 : decode cX9_item 82 = .ok (.aload_n 0, 1) := by decide +kernel
theorem dX9_item_83 : decode cX9_item 83 = .ok (.getfield 130, 3) := by decide +kernel
theorem dX9_item_86 : decode cX9_item 86 = .ok (.iload_n 1, 1) := by decide +kernel
theorem dX9_item_87 : decode cX9_item 87 = .ok (.iaload, 1) := by decide +kernel
theorem dX9_item_88 : decode cX9_item 88 = .ok (.ireturn, 1) := by decide +kernel
theorem dX9_item_89 : decode cX9_item 89 = .ok (.aload_n 0, 1) := by decide +kernel
theorem dX9_item_90 : decode cX9_item 90 = .ok (.getfield 130, 3) := by decide +kernel
theorem dX9_item_93 : decode cX9_item 93 = .ok (.iload_n 1, 1) := by decide +kernel
theorem dX9_item_94 : decode cX9_item 94 = .ok (.iaload, 1) := by decide +kernel
theorem dX9_item_95 : decode cX9_item 95 = .ok (.ifCond .ne 11, 3) := by decide +kernel
theorem dX9_item_98 : decode cX9_item 98 = .ok (.aload_n 0, 1) := by decide +kernel
theorem dX9_item_99 : decode cX9_item 99 = .ok (.iload_n 1, 1) := by decide +kernel
theorem dX9_item_100 : decode cX9_item 100 = .ok (.invokevirtual 291, 3) := by decide +kernel
theorem dX9_item_103 : decode cX9_item 103 = .ok (.goto 23, 3) := by decide +kernel
theorem dX9_item_106 : decode cX9_item 106 = .ok (.aload_n 0, 1) := by decide +kernel
theorem dX9_item_107 : decode cX9_item 107 = .ok (.getfield 130, 3) := by decide +kernel
theorem dX9_item_110 : decode cX9_item 110 = .ok (.iload_n 1, 1) := by decide +kernel
theorem dX9_item_111 : decode cX9_item 111 = .ok (.iaload, 1) := by decide +kernel
theorem dX9_item_112 : decode cX9_item 112 = .ok (.iconst 1, 1) := by decide +kernel
theorem dX9_item_113 : decode cX9_item 113 = .ok (.if_icmp .ne 12, 3) := by decide +kernel
theorem dX9_item_116 : decode cX9_item 116 = .ok (.aload_n 0, 1) := by decide +kernel
theorem dX9_item_117 : decode cX9_item 117 = .ok (.getfield 136, 3) := by decide +kernel
theorem dX9_item_120 : decode cX9_item 120 = .ok (.iload_n 1, 1) := by decide +kernel
theorem dX9_item_121 : decode cX9_item 121 = .ok (.iaload, 1) := by decide +kernel
theorem dX9_item_122 : decode cX9_item 122 = .ok (.goto 4, 3) := by decide +kernel
theorem dX9_item_125 : decode cX9_item 125 = .ok (.iconst 0, 1) := by decide +kernel
theorem dX9_item_126 : decode cX9_item 126 = .ok (.ireturn, 1) := by decide +kernel
theorem dX9_item_127 : decode cX9_item 127 = .ok (.aload_n 0, 1) := by decide +kernel
theorem dX9_item_128 : decode cX9_item 128 = .ok (.getfield 133, 3) := by decide +kernel
theorem dX9_item_131 : decode cX9_item 131 = .ok (.iload_n 1, 1) := by decide +kernel
theorem dX9_item_132 : decode cX9_item 132 = .ok (.iaload, 1) := by decide +kernel
theorem dX9_item_133 : decode cX9_item 133 = .ok (.ireturn, 1) := by decide +kernel
theorem dX9_find_0 : decode cX9_find 0 = .ok (.aload_n 0, 1) := by decide +kernel
theorem dX9_find_1 : decode cX9_find 1 = .ok (.iconst 0, 1) := by decide +kernel
theorem dX9_find_2 : decode cX9_find 2 = .ok (.putfield 1, 3) := by decide +kernel
theorem dX9_find_5 : decode cX9_find 5 = .ok (.aload_n 0, 1) := by decide +kernel
theorem dX9_find_6 : decode cX9_find 6 = .ok (.iload_n 1, 1) := by decide +kernel
theorem dX9_find_7 : decode cX9_find 7 = .ok (.ifCond .lt 13, 3) := by decide +kernel
theorem dX9_find_10 : decode cX9_find 10 = .ok (.iload_n 1, 1) := by decide +kernel
theorem dX9_find_11 : decode cX9_find 11 = .ok (.bipush 99, 2) := by decide +kernel
theorem dX9_find_13 : decode cX9_find 13 = .ok (.if_icmp .gt 7, 3) := by decide +kernel
theorem dX9_find_16 : decode cX9_find 16 = .ok (.iconst 1, 1) := by decide +kernel
theorem dX9_find_17 : decode cX9_find 17 = .ok (.goto 4, 3) := by decide +kernel
theorem dX9_find_20 : decode cX9_find 20 = .ok (.iconst 0, 1) := by decide +kernel
theorem dX9_find_21 : decode cX9_find 21 = .ok (.iconst 1, 1) := by decide +kernel
theorem dX9_find_22 : decode cX9_find 22 = .ok (.invokevirtual 151, 3) := by decide +kernel
theorem dX9_find_25 : decode cX9_find 25 = .ok (.ifCond .ne 5, 3) := by decide +kernel
theorem dX9_find_28 : decode cX9_find 28 = .ok (.iconst 0, 1) := by decide +kernel
theorem dX9_find_29 : decode cX9_find 29 = .ok (.ireturn, 1) := by decide +kernel
theorem dX9_find_30 : decode cX9_find 30 = .ok (.aload_n 0, 1) := by decide +kernel
theorem dX9_find_31 : decode cX9_find 31 = .ok (.iconst 0, 1) := by decide +kernel
theorem dX9_find_32 : decode cX9_find 32 = .ok (.putfield 294, 3) := by decide +kernel
theorem dX9_find_35 : decode cX9_find 35 = .ok (.iconst 0, 1) := by decide +kernel
theorem dX9_find_36 : decode cX9_find 36 = .ok (.istore 5, 2) := by decide +kernel
theorem dX9_find_38 : decode cX9_find 38 = .ok (.iload 5, 2) := by decide +kernel
theorem dX9_find_40 : decode cX9_find 40 = .ok (.aload_n 0, 1) := by decide +kernel
theorem dX9_find_41 : decode cX9_find 41 = .ok (.getfield 277, 3) := by decide +kernel
theorem dX9_find_44 : decode cX9_find 44 = .ok (.if_icmp .ge 126, 3) := by decide +kernel
theorem dX9_find_47 : decode cX9_find 47 = .ok (.aload_n 0, 1) := by decide +kernel
theorem dX9_find_48 : decode cX9_find 48 = .ok (.iload 5, 2) := by decide +kernel
theorem dX9_find_50 : decode cX9_find 50 = .ok (.invokevirtual 274, 3) := by decide +kernel
theorem dX9_find_53 : decode cX9_find 53 = .ok (.istore 6, 2) := by decide +kernel
theorem dX9_find_55 : decode cX9_find 55 = .ok (.aload_n 0, 1) := by decide +kernel
theorem dX9_find_56 : decode cX9_find 56 = .ok (.getfield 130, 3) := by decide +kernel
theorem dX9_find_59 : decode cX9_find 59 = .ok (.iload 5, 2) := by decide +kernel
theorem dX9_find_61 : decode cX9_find 61 = .ok (.iaload, 1) := by decide +kernel
theorem dX9_find_62 : decode cX9_find 62 = .ok (.ifCond .ne 102, 3) := by decide +kernel
theorem dX9_find_65 : decode cX9_find 65 = .ok (.aload_n 0, 1) := by decide +kernel
theorem dX9_find_66 : decode cX9_find 66 = .ok (.getfield 52, 3) := by decide +kernel
theorem dX9_find_69 : decode cX9_find 69 = .ok (.iload 6, 2) := by decide +kernel
theorem dX9_find_71 : decode cX9_find 71 = .ok (.iaload, 1) := by decide +kernel
theorem dX9_find_72 : decode cX9_find 72 = .ok (.iload_n 1, 1) := by decide +kernel
theorem dX9_find_73 : decode cX9_find 73 = .ok (.if_icmp .eq 6, 3) := by decide +kernel
theorem dX9_find_76 : decode cX9_find 76 = .ok (.goto 88, 3) := by decide +kernel
theorem dX9_find_79 : decode cX9_find 79 = .ok (.aload_n 0, 1) := by decide +kernel
theorem dX9_find_80 : decode cX9_find 80 = .ok (.getfield 73, 3) := by decide +kernel
theorem dX9_find_83 : decode cX9_find 83 = .ok (.aload_n 0, 1) := by decide +kernel
theorem dX9_find_84 : decode cX9_find 84 = .ok (.getfield 124, 3) := by decide +kernel
theorem dX9_find_87 : decode cX9_find 87 = .ok (.iload 5, 2) := by decide +kernel
theorem dX9_find_89 : decode cX9_find 89 = .ok (.iaload, 1) := by decide +kernel
theorem dX9_find_90 : decode cX9_find 90 = .ok (.iaload, 1) := by decide +kernel
theorem dX9_find_91 : decode cX9_find 91 = .ok (.iload_n 2, 1) := by decide +kernel
theorem dX9_find_92 : decode cX9_find 92 = .ok (.if_icmp .ne 7, 3) := by decide +kernel
theorem dX9_find_95 : decode cX9_find 95 = .ok (.iconst 1, 1) := by decide +kernel
theorem dX9_find_96 : decode cX9_find 96 = .ok (.goto 4, 3) := by decide +kernel
theorem dX9_find_99 : decode cX9_find 99 = .ok (.iconst 0, 1) := by decide +kernel
theorem dX9_find_100 : decode cX9_find 100 = .ok (.istore 7, 2) := by decide +kernel
theorem dX9_find_102 : decode cX9_find 102 = .ok (.aload_n 0, 1) := by decide +kernel
theorem dX9_find_103 : decode cX9_find 103 = .ok (.getfield 70, 3) := by decide +kernel
theorem dX9_find_106 : decode cX9_find 106 = .ok (.iload 6, 2) := by decide +kernel
theorem dX9_find_108 : decode cX9_find 108 = .ok (.iaload, 1) := by decide +kernel
theorem dX9_find_109 : decode cX9_find 109 = .ok (.iconst (-1), 1) := by decide +kernel
theorem dX9_find_110 : decode cX9_find 110 = .ok (.if_icmp .ne 11, 3) := by decide +kernel
theorem dX9_find_113 : decode cX9_find 113 = .ok (.iload 7, 2) := by decide +kernel
theorem dX9_find_115 : decode cX9_find 115 = .ok (.ifCond .ne 27, 3) := by decide +kernel
theorem dX9_find_118 : decode cX9_find 118 = .ok (.goto 46, 3) := by decide +kernel
theorem dX9_find_121 : decode cX9_find 121 = .ok (.aload_n 0, 1) := by decide +kernel
theorem dX9_find_122 : decode cX9_find 122 = .ok (.aload_n 0, 1) := by decide +kernel
theorem dX9_find_123 : decode cX9_find 123 = .ok (.getfield 70, 3) := by decide +kernel
theorem dX9_find_126 : decode cX9_find 126 = .ok (.iload 6, 2) := by decide +kernel
theorem dX9_find_128 : decode cX9_find 128 = .ok (.iaload, 1) := by decide +kernel
theorem dX9_find_129 : decode cX9_find 129 = .ok (.iload_n 2, 1) := by decide +kernel
theorem dX9_find_130 : decode cX9_find 130 = .ok (.iload_n 3, 1) := by decide +kernel
theorem dX9_find_131 : decode cX9_find 131 = .ok (.iload 4, 2) := by decide +kernel
theorem dX9_find_133 : decode cX9_find 133 = .ok (.invokevirtual 215, 3) := by decide +kernel
theorem dX9_find_136 : decode cX9_find 136 = .ok (.ifCond .ne 6, 3) := by decide +kernel
theorem dX9_find_139 : decode cX9_find 139 = .ok (.goto 25, 3) := by decide +kernel
theorem dX9_find_142 : decode cX9_find 142 = .ok (.aload_n 0, 1) := by decide +kernel
theorem dX9_find_143 : decode cX9_find 143 = .ok (.iload 5, 2) := by decide +kernel
theorem dX9_find_145 : decode cX9_find 145 = .ok (.iload 7, 2) := by decide +kernel
theorem dX9_find_147 : decode cX9_find 147 = .ok (.ifCond .ne 7, 3) := by decide +kernel
theorem dX9_find_150 : decode cX9_find 150 = .ok (.iconst 1, 1) := by decide +kernel
theorem dX9_find_151 : decode cX9_find 151 = .ok (.goto 4, 3) := by decide +kernel
theorem dX9_find_154 : decode cX9_find 154 = .ok (.iconst 0, 1) := by decide +kernel
theorem dX9_find_155 : decode cX9_find 155 = .ok (.aload_n 0, 1) := by decide +kernel
theorem dX9_find_156 : decode cX9_find 156 = .ok (.iload 5, 2) := by decide +kernel
theorem dX9_find_158 : decode cX9_find 158 = .ok (.invokevirtual 291, 3) := by decide +kernel
theorem dX9_find_161 : decode cX9_find 161 = .ok (.invokevirtual 297, 3) := by decide +kernel
theorem dX9_find_164 : decode cX9_find 164 = .ok (.iinc 5 1, 3) := by decide +kernel
theorem dX9_find_167 : decode cX9_find 167 = .ok (.goto (-129), 3) := by decide +kernel
theorem dX9_find_170 : decode cX9_find 170 = .ok (.aload_n 0, 1) := by decide +kernel
theorem dX9_find_171 : decode cX9_find 171 = .ok (.getfield 294, 3) := by decide +kernel
theorem dX9_find_174 : decode cX9_find 174 = .ok (.ireturn, 1) := by decide +kernel
theorem dX9_insert_0 : decode cX9_insert 0 = .ok (.aload_n 0, 1) := by decide +kernel
theorem dX9_insert_1 : decode cX9_insert 1 = .ok (.getfield 294, 3) := by decide +kernel
theorem dX9_insert_4 : decode cX9_insert 4 = .ok (.istore 4, 2) := by decide +kernel
theorem dX9_insert_6 : decode cX9_insert 6 = .ok (.iload 4, 2) := by decide +kernel
theorem dX9_insert_8 : decode cX9_insert 8 = .ok (.ifCond .le 99, 3) := by decide +kernel
theorem dX9_insert_11 : decode cX9_insert 11 = .ok (.aload_n 0, 1) := by decide +kernel
theorem dX9_insert_12 : decode cX9_insert 12 = .ok (.getfield 145, 3) := by decide +kernel
theorem dX9_insert_15 : decode cX9_insert 15 = .ok (.iload 4, 2) := by decide +kernel
theorem dX9_insert_17 : decode cX9_insert 17 = .ok (.iconst 1, 1) := by decide +kernel
theorem dX9_insert_18 : decode cX9_insert 18 = .ok (.isub, 1) := by decide +kernel
theorem dX9_insert_19 : decode cX9_insert 19 = .ok (.baload, 1) := by decide +kernel
theorem dX9_insert_20 : decode cX9_insert 20 = .ok (.ifCond .eq 7, 3) := by decide +kernel
theorem dX9_insert_23 : decode cX9_insert 23 = .ok (.iload_n 2, 1) := by decide +kernel
theorem dX9_insert_24 : decode cX9_insert 24 = .ok (.ifCond .eq 29, 3) := by decide +kernel
theorem dX9_insert_27 : decode cX9_insert 27 = .ok (.aload_n 0, 1) := by decide +kernel
theorem dX9_insert_28 : decode cX9_insert 28 = .ok (.getfield 145, 3) := by decide +kernel
theorem dX9_insert_31 : decode cX9_insert 31 = .ok (.iload 4, 2) := by decide +kernel
theorem dX9_insert_33 : decode cX9_insert 33 = .ok (.iconst 1, 1) := by decide +kernel
theorem dX9_insert_34 : decode cX9_insert 34 = .ok (.isub, 1) := by decide +kernel
theorem dX9_insert_35 : decode cX9_insert 35 = .ok (.baload, 1) := by decide +kernel
theorem dX9_insert_36 : decode cX9_insert 36 = .ok (.iload_n 2, 1) := by decide +kernel
theorem dX9_insert_37 : decode cX9_insert 37 = .ok (.if_icmp .ne 70, 3) := by decide +kernel
theorem dX9_insert_40 : decode cX9_insert 40 = .ok (.aload_n 0, 1) := by decide +kernel
theorem dX9_insert_41 : decode cX9_insert 41 = .ok (.getfield 142, 3) := by decide +kernel
theorem dX9_insert_44 : decode cX9_insert 44 = .ok (.iload 4, 2) := by decide +kernel
theorem dX9_insert_46 : decode cX9_insert 46 = .ok (.iconst 1, 1) := by decide +kernel
theorem dX9_insert_47 : decode cX9_insert 47 = .ok (.isub, 1) := by decide +kernel
theorem dX9_insert_48 : decode cX9_insert 48 = .ok (.iaload, 1) := by decide +kernel
theorem dX9_insert_49 : decode cX9_insert 49 = .ok (.iload_n 3, 1) := by decide +kernel
theorem dX9_insert_50 : decode cX9_insert 50 = .ok (.if_icmp .le 57, 3) := by decide +kernel
theorem dX9_insert_53 : decode cX9_insert 53 = .ok (.aload_n 0, 1) := by decide +kernel
theorem dX9_insert_54 : decode cX9_insert 54 = .ok (.getfield 139, 3) := by decide +kernel
theorem dX9_insert_57 : decode cX9_insert 57 = .ok (.iload 4, 2) := by decide +kernel
theorem dX9_insert_59 : decode cX9_insert 59 = .ok (.aload_n 0, 1) := by decide +kernel
theorem dX9_insert_60 : decode cX9_insert 60 = .ok (.getfield 139, 3) := by decide +kernel
theorem dX9_insert_63 : decode cX9_insert 63 = .ok (.iload 4, 2) := by decide +kernel
theorem dX9_insert_65 : decode cX9_insert 65 = .ok (.iconst 1, 1) := by decide +kernel
theorem dX9_insert_66 : decode cX9_insert 66 = .ok (.isub, 1) := by decide +kernel
theorem dX9_insert_67 : decode cX9_insert 67 = .ok (.iaload, 1) := by decide +kernel
theorem dX9_insert_68 : decode cX9_insert 68 = .ok (.iastore, 1) := by decide +kernel
theorem dX9_insert_69 : decode cX9_insert 69 = .ok (.aload_n 0, 1) := by decide +kernel
theorem dX9_insert_70 : decode cX9_insert 70 = .ok (.getfield 142, 3) := by decide +kernel
theorem dX9_insert_73 : decode cX9_insert 73 = .ok (.iload 4, 2) := by decide +kernel
theorem dX9_insert_75 : decode cX9_insert 75 = .ok (.aload_n 0, 1) := by decide +kernel
theorem dX9_insert_76 : decode cX9_insert 76 = .ok (.getfield 142, 3) := by decide +kernel
theorem dX9_insert_79 : decode cX9_insert 79 = .ok (.iload 4, 2) := by decide +kernel
theorem dX9_insert_81 : decode cX9_insert 81 = .ok (.iconst 1, 1) := by decide +kernel
theorem dX9_insert_82 : decode cX9_insert 82 = .ok (.isub, 1) := by decide +kernel
theorem dX9_insert_83 : decode cX9_insert 83 = .ok (.iaload, 1) := by decide +kernel
theorem dX9_insert_84 : decode cX9_insert 84 = .ok (.iastore, 1) := by decide +kernel
theorem dX9_insert_85 : decode cX9_insert 85 = .ok (.aload_n 0, 1) := by decide +kernel
theorem dX9_insert_86 : decode cX9_insert 86 = .ok (.getfield 145, 3) := by decide +kernel
theorem dX9_insert_89 : decode cX9_insert 89 = .ok (.iload 4, 2) := by decide +kernel
theorem dX9_insert_91 : decode cX9_insert 91 = .ok (.aload_n 0, 1) := by decide +kernel
theorem dX9_insert_92 : decode cX9_insert 92 = .ok (.getfield 145, 3) := by decide +kernel
theorem dX9_insert_95 : decode cX9_insert 95 = .ok (.iload 4, 2) := by decide +kernel
theorem dX9_insert_97 : decode cX9_insert 97 = .ok (.iconst 1, 1) := by decide +kernel
theorem dX9_insert_98 : decode cX9_insert 98 = .ok (.isub, 1) := by decide +kernel
theorem dX9_insert_99 : decode cX9_insert 99 = .ok (.baload, 1) := by decide +kernel
theorem dX9_insert_100 : decode cX9_insert 100 = .ok (.bastore, 1) := by decide +kernel
theorem dX9_insert_101 : decode cX9_insert 101 = .ok (.iinc 4 (-1), 3) := by decide +kernel
theorem dX9_insert_104 : decode cX9_insert 104 = .ok (.goto (-98), 3) := by decide +kernel
theorem dX9_insert_107 : decode cX9_insert 107 = .ok (.aload_n 0, 1) := by decide +kernel
theorem dX9_insert_108 : decode cX9_insert 108 = .ok (.getfield 139, 3) := by decide +kernel
theorem dX9_insert_111 : decode cX9_insert 111 = .ok (.iload 4, 2) := by decide +kernel
theorem dX9_insert_113 : decode cX9_insert 113 = .ok (.iload_n 1, 1) := by decide +kernel
theorem dX9_insert_114 : decode cX9_insert 114 = .ok (.iastore, 1) := by decide +kernel
theorem dX9_insert_115 : decode cX9_insert 115 = .ok (.aload_n 0, 1) := by decide +kernel
theorem dX9_insert_116 : decode cX9_insert 116 = .ok (.getfield 142, 3) := by decide +kernel
theorem dX9_insert_119 : decode cX9_insert 119 = .ok (.iload 4, 2) := by decide +kernel
theorem dX9_insert_121 : decode cX9_insert 121 = .ok (.iload_n 3, 1) := by decide +kernel
theorem dX9_insert_122 : decode cX9_insert 122 = .ok (.iastore, 1) := by decide +kernel
theorem dX9_insert_123 : decode cX9_insert 123 = .ok (.aload_n 0, 1) := by decide +kernel
theorem dX9_insert_124 : decode cX9_insert 124 = .ok (.getfield 145, 3) := by decide +kernel
theorem dX9_insert_127 : decode cX9_insert 127 = .ok (.iload 4, 2) := by decide +kernel
theorem dX9_insert_129 : decode cX9_insert 129 = .ok (.iload_n 2, 1) := by decide +kernel
theorem dX9_insert_130 : decode cX9_insert 130 = .ok (.bastore, 1) := by decide +kernel
theorem dX9_insert_131 : decode cX9_insert 131 = .ok (.aload_n 0, 1) := by decide +kernel
theorem dX9_insert_132 : decode cX9_insert 132 = .ok (.dup, 1) := by decide +kernel
theorem dX9_insert_133 : decode cX9_insert 133 = .ok (.getfield 294, 3) := by decide +kernel
theorem dX9_insert_136 : decode cX9_insert 136 = .ok (.iconst 1, 1) := by decide +kernel
theorem dX9_insert_137 : decode cX9_insert 137 = .ok (.iadd, 1) := by decide +kernel
theorem dX9_insert_138 : decode cX9_insert 138 = .ok (.putfield 294, 3) := by decide +kernel
theorem dX9_insert_141 : decode cX9_insert 141 = .ok (.return_, 1) := by decide +kernel
theorem dX9_found_0 : decode cX9_found 0 = .ok (.aload_n 0, 1) := by decide +kernel
theorem dX9_found_1 : decode cX9_found 1 = .ok (.iconst 0, 1) := by decide +kernel
theorem dX9_found_2 : decode cX9_found 2 = .ok (.putfield 1, 3) := by decide +kernel
theorem dX9_found_5 : decode cX9_found 5 = .ok (.iload_n 1, 1) := by decide +kernel
theorem dX9_found_6 : decode cX9_found 6 = .ok (.ifCond .lt 20, 3) := by decide +kernel
theorem dX9_found_9 : decode cX9_found 9 = .ok (.iload_n 1, 1) := by decide +kernel
theorem dX9_found_10 : decode cX9_found 10 = .ok (.aload_n 0, 1) := by decide +kernel
theorem dX9_found_11 : decode cX9_found 11 = .ok (.getfield 294, 3) := by decide +kernel
theorem dX9_found_14 : decode cX9_found 14 = .ok (.if_icmp .ge 12, 3) := by decide +kernel
theorem dX9_found_17 : decode cX9_found 17 = .ok (.aload_n 0, 1) := by decide +kernel
theorem dX9_found_18 : decode cX9_found 18 = .ok (.getfield 139, 3) := by decide +kernel
theorem dX9_found_21 : decode cX9_found 21 = .ok (.iload_n 1, 1) := by decide +kernel
theorem dX9_found_22 : decode cX9_found 22 = .ok (.iaload, 1) := by decide +kernel
theorem dX9_found_23 : decode cX9_found 23 = .ok (.goto 4, 3) := by decide +kernel
theorem dX9_found_26 : decode cX9_found 26 = .ok (.iconst (-1), 1) := by decide +kernel
theorem dX9_found_27 : decode cX9_found 27 = .ok (.ireturn, 1) := by decide +kernel
theorem dX9_sells_0 : decode cX9_sells 0 = .ok (.aload_n 0, 1) := by decide +kernel
theorem dX9_sells_1 : decode cX9_sells 1 = .ok (.getfield 130, 3) := by decide +kernel
theorem dX9_sells_4 : decode cX9_sells 4 = .ok (.iload_n 1, 1) := by decide +kernel
theorem dX9_sells_5 : decode cX9_sells 5 = .ok (.iconst 1, 1) := by decide +kernel
theorem dX9_sells_6 : decode cX9_sells 6 = .ok (.iastore, 1) := by decide +kernel
theorem dX9_sells_7 : decode cX9_sells 7 = .ok (.aload_n 0, 1) := by decide +kernel
theorem dX9_sells_8 : decode cX9_sells 8 = .ok (.getfield 133, 3) := by decide +kernel
theorem dX9_sells_11 : decode cX9_sells 11 = .ok (.iload_n 1, 1) := by decide +kernel
theorem dX9_sells_12 : decode cX9_sells 12 = .ok (.aload_n 0, 1) := by decide +kernel
theorem dX9_sells_13 : decode cX9_sells 13 = .ok (.getfield 248, 3) := by decide +kernel
theorem dX9_sells_16 : decode cX9_sells 16 = .ok (.iastore, 1) := by decide +kernel
theorem dX9_sells_17 : decode cX9_sells 17 = .ok (.aload_n 0, 1) := by decide +kernel
theorem dX9_sells_18 : decode cX9_sells 18 = .ok (.getfield 136, 3) := by decide +kernel
theorem dX9_sells_21 : decode cX9_sells 21 = .ok (.iload_n 1, 1) := by decide +kernel
theorem dX9_sells_22 : decode cX9_sells 22 = .ok (.iload_n 2, 1) := by decide +kernel
theorem dX9_sells_23 : decode cX9_sells 23 = .ok (.iastore, 1) := by decide +kernel
theorem dX9_sells_24 : decode cX9_sells 24 = .ok (.aload_n 0, 1) := by decide +kernel
theorem dX9_sells_25 : decode cX9_sells 25 = .ok (.dup, 1) := by decide +kernel
theorem dX9_sells_26 : decode cX9_sells 26 = .ok (.getfield 301, 3) := by decide +kernel
theorem dX9_sells_29 : decode cX9_sells 29 = .ok (.iload_n 2, 1) := by decide +kernel
theorem dX9_sells_30 : decode cX9_sells 30 = .ok (.i2l, 1) := by decide +kernel
theorem dX9_sells_31 : decode cX9_sells 31 = .ok (.ladd, 1) := by decide +kernel
theorem dX9_sells_32 : decode cX9_sells 32 = .ok (.putfield 301, 3) := by decide +kernel
theorem dX9_sells_35 : decode cX9_sells 35 = .ok (.aload_n 0, 1) := by decide +kernel
theorem dX9_sells_36 : decode cX9_sells 36 = .ok (.dup, 1) := by decide +kernel
theorem dX9_sells_37 : decode cX9_sells 37 = .ok (.getfield 258, 3) := by decide +kernel
theorem dX9_sells_40 : decode cX9_sells 40 = .ok (.iconst 1, 1) := by decide +kernel
theorem dX9_sells_41 : decode cX9_sells 41 = .ok (.isub, 1) := by decide +kernel
theorem dX9_sells_42 : decode cX9_sells 42 = .ok (.putfield 258, 3) := by decide +kernel
theorem dX9_sells_45 : decode cX9_sells 45 = .ok (.aload_n 0, 1) := by decide +kernel
theorem dX9_sells_46 : decode cX9_sells 46 = .ok (.getfield 109, 3) := by decide +kernel
theorem dX9_sells_49 : decode cX9_sells 49 = .ok (.aload_n 0, 1) := by decide +kernel
theorem dX9_sells_50 : decode cX9_sells 50 = .ok (.iload_n 1, 1) := by decide +kernel
theorem dX9_sells_51 : decode cX9_sells 51 = .ok (.invokevirtual 251, 3) := by decide +kernel
theorem dX9_sells_54 : decode cX9_sells 54 = .ok (.dup2, 1) := by decide +kernel
theorem dX9_sells_55 : decode cX9_sells 55 = .ok (.laload, 1) := by decide +kernel
theorem dX9_sells_56 : decode cX9_sells 56 = .ok (.aload_n 0, 1) := by decide +kernel
theorem dX9_sells_57 : decode cX9_sells 57 = .ok (.iload_n 1, 1) := by decide +kernel
theorem dX9_sells_58 : decode cX9_sells 58 = .ok (.invokevirtual 255, 3) := by decide +kernel
theorem dX9_sells_61 : decode cX9_sells 61 = .ok (.i2l, 1) := by decide +kernel
theorem dX9_sells_62 : decode cX9_sells 62 = .ok (.lsub, 1) := by decide +kernel
theorem dX9_sells_63 : decode cX9_sells 63 = .ok (.lastore, 1) := by decide +kernel
theorem dX9_sells_64 : decode cX9_sells 64 = .ok (.aload_n 0, 1) := by decide +kernel
theorem dX9_sells_65 : decode cX9_sells 65 = .ok (.getfield 103, 3) := by decide +kernel
theorem dX9_sells_68 : decode cX9_sells 68 = .ok (.aload_n 0, 1) := by decide +kernel
theorem dX9_sells_69 : decode cX9_sells 69 = .ok (.iload_n 1, 1) := by decide +kernel
theorem dX9_sells_70 : decode cX9_sells 70 = .ok (.invokevirtual 251, 3) := by decide +kernel
theorem dX9_sells_73 : decode cX9_sells 73 = .ok (.dup2, 1) := by decide +kernel
theorem dX9_sells_74 : decode cX9_sells 74 = .ok (.laload, 1) := by decide +kernel
theorem dX9_sells_75 : decode cX9_sells 75 = .ok (.aload_n 0, 1) := by decide +kernel
theorem dX9_sells_76 : decode cX9_sells 76 = .ok (.iload_n 1, 1) := by decide +kernel
theorem dX9_sells_77 : decode cX9_sells 77 = .ok (.invokevirtual 255, 3) := by decide +kernel
theorem dX9_sells_80 : decode cX9_sells 80 = .ok (.i2l, 1) := by decide +kernel
theorem dX9_sells_81 : decode cX9_sells 81 = .ok (.ladd, 1) := by decide +kernel
theorem dX9_sells_82 : decode cX9_sells 82 = .ok (.lastore, 1) := by decide +kernel
theorem dX9_sells_83 : decode cX9_sells 83 = .ok (.return_, 1) := by decide +kernel
theorem dX9_sell_0 : decode cX9_sell 0 = .ok (.aload_n 0, 1) := by decide +kernel
theorem dX9_sell_1 : decode cX9_sell 1 = .ok (.iconst 0, 1) := by decide +kernel
theorem dX9_sell_2 : decode cX9_sell 2 = .ok (.putfield 1, 3) := by decide +kernel
theorem dX9_sell_5 : decode cX9_sell 5 = .ok (.aload_n 0, 1) := by decide +kernel
theorem dX9_sell_6 : decode cX9_sell 6 = .ok (.iload_n 1, 1) := by decide +kernel
theorem dX9_sell_7 : decode cX9_sell 7 = .ok (.invokevirtual 288, 3) := by decide +kernel
theorem dX9_sell_10 : decode cX9_sell 10 = .ok (.ifCond .eq 25, 3) := by decide +kernel
theorem dX9_sell_13 : decode cX9_sell 13 = .ok (.aload_n 0, 1) := by decide +kernel
theorem dX9_sell_14 : decode cX9_sell 14 = .ok (.iload_n 2, 1) := by decide +kernel
theorem dX9_sell_15 : decode cX9_sell 15 = .ok (.ifCond .eq 8, 3) := by decide +kernel
theorem dX9_sell_18 : decode cX9_sell 18 = .ok (.iload_n 2, 1) := by decide +kernel
theorem dX9_sell_19 : decode cX9_sell 19 = .ok (.iconst 1, 1) := by decide +kernel
theorem dX9_sell_20 : decode cX9_sell 20 = .ok (.if_icmp .ne 7, 3) := by decide +kernel
theorem dX9_sell_23 : decode cX9_sell 23 = .ok (.iconst 1, 1) := by decide +kernel
theorem dX9_sell_24 : decode cX9_sell 24 = .ok (.goto 4, 3) := by decide +kernel
theorem dX9_sell_27 : decode cX9_sell 27 = .ok (.iconst 0, 1) := by decide +kernel
theorem dX9_sell_28 : decode cX9_sell 28 = .ok (.iconst 2, 1) := by decide +kernel
theorem dX9_sell_29 : decode cX9_sell 29 = .ok (.invokevirtual 151, 3) := by decide +kernel
theorem dX9_sell_32 : decode cX9_sell 32 = .ok (.ifCond .ne 5, 3) := by decide +kernel
theorem dX9_sell_35 : decode cX9_sell 35 = .ok (.iconst 0, 1) := by decide +kernel
theorem dX9_sell_36 : decode cX9_sell 36 = .ok (.ireturn, 1) := by decide +kernel
theorem dX9_sell_37 : decode cX9_sell 37 = .ok (.aload_n 0, 1) := by decide +kernel
theorem dX9_sell_38 : decode cX9_sell 38 = .ok (.getfield 130, 3) := by decide +kernel
theorem dX9_sell_41 : decode cX9_sell 41 = .ok (.iload_n 1, 1) := by decide +kernel
theorem dX9_sell_42 : decode cX9_sell 42 = .ok (.iaload, 1) := by decide +kernel
theorem dX9_sell_43 : decode cX9_sell 43 = .ok (.ifCond .eq 5, 3) := by decide +kernel
theorem dX9_sell_46 : decode cX9_sell 46 = .ok (.iconst (-1), 1) := by decide +kernel
theorem dX9_sell_47 : decode cX9_sell 47 = .ok (.ireturn, 1) := by decide +kernel
theorem dX9_sell_48 : decode cX9_sell 48 = .ok (.aload_n 0, 1) := by decide +kernel
theorem dX9_sell_49 : decode cX9_sell 49 = .ok (.iload_n 1, 1) := by decide +kernel
theorem dX9_sell_50 : decode cX9_sell 50 = .ok (.invokevirtual 274, 3) := by decide +kernel
theorem dX9_sell_53 : decode cX9_sell 53 = .ok (.istore_n 3, 1) := by decide +kernel
theorem dX9_sell_54 : decode cX9_sell 54 = .ok (.aload_n 0, 1) := by decide +kernel
theorem dX9_sell_55 : decode cX9_sell 55 = .ok (.getfield 49, 3) := by decide +kernel
theorem dX9_sell_58 : decode cX9_sell 58 = .ok (.iload_n 3, 1) := by decide +kernel
theorem dX9_sell_59 : decode cX9_sell 59 = .ok (.iaload, 1) := by decide +kernel
theorem dX9_sell_60 : decode cX9_sell 60 = .ok (.iconst 4, 1) := by decide +kernel
theorem dX9_sell_61 : decode cX9_sell 61 = .ok (.if_icmp .ne 10, 3) := by decide +kernel
theorem dX9_sell_64 : decode cX9_sell 64 = .ok (.iload_n 2, 1) := by decide +kernel
theorem dX9_sell_65 : decode cX9_sell 65 = .ok (.ifCond .ne 6, 3) := by decide +kernel
theorem dX9_sell_68 : decode cX9_sell 68 = .ok (.bipush (-2), 2) := by decide +kernel
theorem dX9_sell_70 : decode cX9_sell 70 = .ok (.ireturn, 1) := by decide +kernel
theorem dX9_sell_71 : decode cX9_sell 71 = .ok (.aload_n 0, 1) := by decide +kernel
theorem dX9_sell_72 : decode cX9_sell 72 = .ok (.iconst 0, 1) := by decide +kernel
theorem dX9_sell_73 : decode cX9_sell 73 = .ok (.putfield 241, 3) := by decide +kernel
theorem dX9_sell_76 : decode cX9_sell 76 = .ok (.aload_n 0, 1) := by decide +kernel
theorem dX9_sell_77 : decode cX9_sell 77 = .ok (.iload_n 1, 1) := by decide +kernel
theorem dX9_sell_78 : decode cX9_sell 78 = .ok (.invokevirtual 291, 3) := by decide +kernel
theorem dX9_sell_81 : decode cX9_sell 81 = .ok (.istore 4, 2) := by decide +kernel
theorem dX9_sell_83 : decode cX9_sell 83 = .ok (.iconst (-1), 1) := by decide +kernel
theorem dX9_sell_84 : decode cX9_sell 84 = .ok (.istore 5, 2) := by decide +kernel
theorem dX9_sell_86 : decode cX9_sell 86 = .ok (.aload_n 0, 1) := by decide +kernel
theorem dX9_sell_87 : decode cX9_sell 87 = .ok (.getfield 277, 3) := by decide +kernel
theorem dX9_sell_90 : decode cX9_sell 90 = .ok (.iconst 1, 1) := by decide +kernel
theorem dX9_sell_91 : decode cX9_sell 91 = .ok (.isub, 1) := by decide +kernel
theorem dX9_sell_92 : decode cX9_sell 92 = .ok (.istore 6, 2) := by decide +kernel
theorem dX9_sell_94 : decode cX9_sell 94 = .ok (.iload 6, 2) := by decide +kernel
theorem dX9_sell_96 : decode cX9_sell 96 = .ok (.ifCond .lt 90, 3) := by decide +kernel
theorem dX9_sell_99 : decode cX9_sell 99 = .ok (.aload_n 0, 1) := by decide +kernel
theorem dX9_sell_100 : decode cX9_sell 100 = .ok (.getfield 49, 3) := by decide +kernel
theorem dX9_sell_103 : decode cX9_sell 103 = .ok (.iload_n 3, 1) := by decide +kernel
theorem dX9_sell_104 : decode cX9_sell 104 = .ok (.iaload, 1) := by decide +kernel
theorem dX9_sell_105 : decode cX9_sell 105 = .ok (.iconst 1, 1) := by decide +kernel
theorem dX9_sell_106 : decode cX9_sell 106 = .ok (.if_icmp .ne 80, 3) := by decide +kernel
theorem dX9_sell_109 : decode cX9_sell 109 = .ok (.iload 6, 2) := by decide +kernel
theorem dX9_sell_111 : decode cX9_sell 111 = .ok (.iload_n 1, 1) := by decide +kernel
theorem dX9_sell_112 : decode cX9_sell 112 = .ok (.if_icmp .eq 68, 3) := by decide +kernel
theorem dX9_sell_115 : decode cX9_sell 115 = .ok (.aload_n 0, 1) := by decide +kernel
theorem dX9_sell_116 : decode cX9_sell 116 = .ok (.getfield 130, 3) := by decide +kernel
theorem dX9_sell_119 : decode cX9_sell 119 = .ok (.iload 6, 2) := by decide +kernel
theorem dX9_sell_121 : decode cX9_sell 121 = .ok (.iaload, 1) := by decide +kernel
theorem dX9_sell_122 : decode cX9_sell 122 = .ok (.ifCond .ne 58, 3) := by decide +kernel
theorem dX9_sell_125 : decode cX9_sell 125 = .ok (.aload_n 0, 1) := by decide +kernel
theorem dX9_sell_126 : decode cX9_sell 126 = .ok (.getfield 124, 3) := by decide +kernel
theorem dX9_sell_129 : decode cX9_sell 129 = .ok (.iload 6, 2) := by decide +kernel
theorem dX9_sell_131 : decode cX9_sell 131 = .ok (.iaload, 1) := by decide +kernel
theorem dX9_sell_132 : decode cX9_sell 132 = .ok (.aload_n 0, 1) := by decide +kernel
theorem dX9_sell_133 : decode cX9_sell 133 = .ok (.getfield 124, 3) := by decide +kernel
theorem dX9_sell_136 : decode cX9_sell 136 = .ok (.iload_n 1, 1) := by decide +kernel
theorem dX9_sell_137 : decode cX9_sell 137 = .ok (.iaload, 1) := by decide +kernel
theorem dX9_sell_138 : decode cX9_sell 138 = .ok (.if_icmp .ne 42, 3) := by decide +kernel
theorem dX9_sell_141 : decode cX9_sell 141 = .ok (.aload_n 0, 1) := by decide +kernel
theorem dX9_sell_142 : decode cX9_sell 142 = .ok (.getfield 49, 3) := by decide +kernel
theorem dX9_sell_145 : decode cX9_sell 145 = .ok (.aload_n 0, 1) := by decide +kernel
theorem dX9_sell_146 : decode cX9_sell 146 = .ok (.iload 6, 2) := by decide +kernel
theorem dX9_sell_148 : decode cX9_sell 148 = .ok (.invokevirtual 274, 3) := by decide +kernel
theorem dX9_sell_151 : decode cX9_sell 151 = .ok (.iaload, 1) := by decide +kernel
theorem dX9_sell_152 : decode cX9_sell 152 = .ok (.iconst 1, 1) := by decide +kernel
theorem dX9_sell_153 : decode cX9_sell 153 = .ok (.if_icmp .ne 27, 3) := by decide +kernel
theorem dX9_sell_156 : decode cX9_sell 156 = .ok (.aload_n 0, 1) := by decide +kernel
theorem dX9_sell_157 : decode cX9_sell 157 = .ok (.getfield 52, 3) := by decide +kernel
theorem dX9_sell_160 : decode cX9_sell 160 = .ok (.aload_n 0, 1) := by decide +kernel
theorem dX9_sell_161 : decode cX9_sell 161 = .ok (.iload 6, 2) := by decide +kernel
theorem dX9_sell_163 : decode cX9_sell 163 = .ok (.invokevirtual 274, 3) := by decide +kernel
theorem dX9_sell_166 : decode cX9_sell 166 = .ok (.iaload, 1) := by decide +kernel
theorem dX9_sell_167 : decode cX9_sell 167 = .ok (.aload_n 0, 1) := by decide +kernel
theorem dX9_sell_168 : decode cX9_sell 168 = .ok (.getfield 52, 3) := by decide +kernel
theorem dX9_sell_171 : decode cX9_sell 171 = .ok (.iload_n 3, 1) := by decide +kernel
theorem dX9_sell_172 : decode cX9_sell 172 = .ok (.iaload, 1) := by decide +kernel
theorem dX9_sell_173 : decode cX9_sell 173 = .ok (.if_icmp .ne 7, 3) := by decide +kernel
theorem dX9_sell_176 : decode cX9_sell 176 = .ok (.iload 6, 2) := by decide +kernel
theorem dX9_sell_178 : decode cX9_sell 178 = .ok (.istore 5, 2) := by decide +kernel
theorem dX9_sell_180 : decode cX9_sell 180 = .ok (.iinc 6 (-1), 3) := by decide +kernel
theorem dX9_sell_183 : decode cX9_sell 183 = .ok (.goto (-89), 3) := by decide +kernel
theorem dX9_sell_186 : decode cX9_sell 186 = .ok (.iload 5, 2) := by decide +kernel
theorem dX9_sell_188 : decode cX9_sell 188 = .ok (.iconst (-1), 1) := by decide +kernel
theorem dX9_sell_189 : decode cX9_sell 189 = .ok (.if_icmp .ne 34, 3) := by decide +kernel
theorem dX9_sell_192 : decode cX9_sell 192 = .ok (.aload_n 0, 1) := by decide +kernel
theorem dX9_sell_193 : decode cX9_sell 193 = .ok (.getfield 49, 3) := by decide +kernel
theorem dX9_sell_196 : decode cX9_sell 196 = .ok (.iload_n 3, 1) := by decide +kernel
theorem dX9_sell_197 : decode cX9_sell 197 = .ok (.iaload, 1) := by decide +kernel
theorem dX9_sell_198 : decode cX9_sell 198 = .ok (.iconst 1, 1) := by decide +kernel
theorem dX9_sell_199 : decode cX9_sell 199 = .ok (.if_icmp .ne 10, 3) := by decide +kernel
theorem dX9_sell_202 : decode cX9_sell 202 = .ok (.iload 4, 2) := by decide +kernel
theorem dX9_sell_204 : decode cX9_sell 204 = .ok (.iconst 2, 1) := by decide +kernel
theorem dX9_sell_205 : decode cX9_sell 205 = .ok (.idiv, 1) := by decide +kernel
theorem dX9_sell_206 : decode cX9_sell 206 = .ok (.goto 5, 3) := by decide +kernel
theorem dX9_sell_209 : decode cX9_sell 209 = .ok (.iload 4, 2) := by decide +kernel
theorem dX9_sell_211 : decode cX9_sell 211 = .ok (.istore 4, 2) := by decide +kernel
theorem dX9_sell_213 : decode cX9_sell 213 = .ok (.aload_n 0, 1) := by decide +kernel
theorem dX9_sell_214 : decode cX9_sell 214 = .ok (.iload_n 1, 1) := by decide +kernel
theorem dX9_sell_215 : decode cX9_sell 215 = .ok (.iload 4, 2) := by decide +kernel
theorem dX9_sell_217 : decode cX9_sell 217 = .ok (.invokevirtual 305, 3) := by decide +kernel
theorem dX9_sell_220 : decode cX9_sell 220 = .ok (.iload 4, 2) := by decide +kernel
theorem dX9_sell_222 : decode cX9_sell 222 = .ok (.ireturn, 1) := by decide +kernel
theorem dX9_sell_223 : decode cX9_sell 223 = .ok (.aload_n 0, 1) := by decide +kernel
theorem dX9_sell_224 : decode cX9_sell 224 = .ok (.iload 5, 2) := by decide +kernel
theorem dX9_sell_226 : decode cX9_sell 226 = .ok (.invokevirtual 291, 3) := by decide +kernel
theorem dX9_sell_229 : decode cX9_sell 229 = .ok (.istore 6, 2) := by decide +kernel
theorem dX9_sell_231 : decode cX9_sell 231 = .ok (.aload_n 0, 1) := by decide +kernel
theorem dX9_sell_232 : decode cX9_sell 232 = .ok (.iload_n 1, 1) := by decide +kernel
theorem dX9_sell_233 : decode cX9_sell 233 = .ok (.iload 4, 2) := by decide +kernel
theorem dX9_sell_235 : decode cX9_sell 235 = .ok (.invokevirtual 305, 3) := by decide +kernel
theorem dX9_sell_238 : decode cX9_sell 238 = .ok (.aload_n 0, 1) := by decide +kernel
theorem dX9_sell_239 : decode cX9_sell 239 = .ok (.iload 5, 2) := by decide +kernel
theorem dX9_sell_241 : decode cX9_sell 241 = .ok (.iload 6, 2) := by decide +kernel
theorem dX9_sell_243 : decode cX9_sell 243 = .ok (.invokevirtual 305, 3) := by decide +kernel
theorem dX9_sell_246 : decode cX9_sell 246 = .ok (.iload 4, 2) := by decide +kernel
theorem dX9_sell_248 : decode cX9_sell 248 = .ok (.iload 6, 2) := by decide +kernel
theorem dX9_sell_250 : decode cX9_sell 250 = .ok (.iadd, 1) := by decide +kernel
theorem dX9_sell_251 : decode cX9_sell 251 = .ok (.ireturn, 1) := by decide +kernel
theorem dX9_back_0 : decode cX9_back 0 = .ok (.aload_n 0, 1) := by decide +kernel
theorem dX9_back_1 : decode cX9_back 1 = .ok (.iconst 0, 1) := by decide +kernel
theorem dX9_back_2 : decode cX9_back 2 = .ok (.putfield 1, 3) := by decide +kernel
theorem dX9_back_5 : decode cX9_back 5 = .ok (.aload_n 0, 1) := by decide +kernel
theorem dX9_back_6 : decode cX9_back 6 = .ok (.iload_n 1, 1) := by decide +kernel
theorem dX9_back_7 : decode cX9_back 7 = .ok (.invokevirtual 288, 3) := by decide +kernel
theorem dX9_back_10 : decode cX9_back 10 = .ok (.ifCond .eq 25, 3) := by decide +kernel
theorem dX9_back_13 : decode cX9_back 13 = .ok (.aload_n 0, 1) := by decide +kernel
theorem dX9_back_14 : decode cX9_back 14 = .ok (.iload_n 2, 1) := by decide +kernel
theorem dX9_back_15 : decode cX9_back 15 = .ok (.ifCond .eq 8, 3) := by decide +kernel
theorem dX9_back_18 : decode cX9_back 18 = .ok (.iload_n 2, 1) := by decide +kernel
theorem dX9_back_19 : decode cX9_back 19 = .ok (.iconst 1, 1) := by decide +kernel
theorem dX9_back_20 : decode cX9_back 20 = .ok (.if_icmp .ne 7, 3) := by decide +kernel
theorem dX9_back_23 : decode cX9_back 23 = .ok (.iconst 1, 1) := by decide +kernel
theorem dX9_back_24 : decode cX9_back 24 = .ok (.goto 4, 3) := by decide +kernel
theorem dX9_back_27 : decode cX9_back 27 = .ok (.iconst 0, 1) := by decide +kernel
theorem dX9_back_28 : decode cX9_back 28 = .ok (.iconst 2, 1) := by decide +kernel
theorem dX9_back_29 : decode cX9_back 29 = .ok (.invokevirtual 151, 3) := by decide +kernel
theorem dX9_back_32 : decode cX9_back 32 = .ok (.ifCond .ne 5, 3) := by decide +kernel
theorem dX9_back_35 : decode cX9_back 35 = .ok (.iconst 0, 1) := by decide +kernel
theorem dX9_back_36 : decode cX9_back 36 = .ok (.ireturn, 1) := by decide +kernel
theorem dX9_back_37 : decode cX9_back 37 = .ok (.aload_n 0, 1) := by decide +kernel
theorem dX9_back_38 : decode cX9_back 38 = .ok (.getfield 130, 3) := by decide +kernel
theorem dX9_back_41 : decode cX9_back 41 = .ok (.iload_n 1, 1) := by decide +kernel
theorem dX9_back_42 : decode cX9_back 42 = .ok (.iaload, 1) := by decide +kernel
theorem dX9_back_43 : decode cX9_back 43 = .ok (.iconst 1, 1) := by decide +kernel
theorem dX9_back_44 : decode cX9_back 44 = .ok (.if_icmp .eq 5, 3) := by decide +kernel
theorem dX9_back_47 : decode cX9_back 47 = .ok (.iconst (-1), 1) := by decide +kernel
theorem dX9_back_48 : decode cX9_back 48 = .ok (.ireturn, 1) := by decide +kernel
theorem dX9_back_49 : decode cX9_back 49 = .ok (.aload_n 0, 1) := by decide +kernel
theorem dX9_back_50 : decode cX9_back 50 = .ok (.getfield 248, 3) := by decide +kernel
theorem dX9_back_53 : decode cX9_back 53 = .ok (.aload_n 0, 1) := by decide +kernel
theorem dX9_back_54 : decode cX9_back 54 = .ok (.getfield 133, 3) := by decide +kernel
theorem dX9_back_57 : decode cX9_back 57 = .ok (.iload_n 1, 1) := by decide +kernel
theorem dX9_back_58 : decode cX9_back 58 = .ok (.iaload, 1) := by decide +kernel
theorem dX9_back_59 : decode cX9_back 59 = .ok (.isub, 1) := by decide +kernel
theorem dX9_back_60 : decode cX9_back 60 = .ok (.bipush 30, 2) := by decide +kernel
theorem dX9_back_62 : decode cX9_back 62 = .ok (.if_icmp .le 6, 3) := by decide +kernel
theorem dX9_back_65 : decode cX9_back 65 = .ok (.bipush (-2), 2) := by decide +kernel
theorem dX9_back_67 : decode cX9_back 67 = .ok (.ireturn, 1) := by decide +kernel
theorem dX9_back_68 : decode cX9_back 68 = .ok (.iload_n 2, 1) := by decide +kernel
theorem dX9_back_69 : decode cX9_back 69 = .ok (.ifCond .ne 15, 3) := by decide +kernel
theorem dX9_back_72 : decode cX9_back 72 = .ok (.aload_n 0, 1) := by decide +kernel
theorem dX9_back_73 : decode cX9_back 73 = .ok (.getfield 258, 3) := by decide +kernel
theorem dX9_back_76 : decode cX9_back 76 = .ok (.bipush 60, 2) := by decide +kernel
theorem dX9_back_78 : decode cX9_back 78 = .ok (.if_icmp .ne 6, 3) := by decide +kernel
theorem dX9_back_81 : decode cX9_back 81 = .ok (.bipush (-3), 2) := by decide +kernel
theorem dX9_back_83 : decode cX9_back 83 = .ok (.ireturn, 1) := by decide +kernel
theorem dX9_back_84 : decode cX9_back 84 = .ok (.aload_n 0, 1) := by decide +kernel
theorem dX9_back_85 : decode cX9_back 85 = .ok (.iconst 0, 1) := by decide +kernel
theorem dX9_back_86 : decode cX9_back 86 = .ok (.putfield 241, 3) := by decide +kernel
theorem dX9_back_89 : decode cX9_back 89 = .ok (.aload_n 0, 1) := by decide +kernel
theorem dX9_back_90 : decode cX9_back 90 = .ok (.getfield 136, 3) := by decide +kernel
theorem dX9_back_93 : decode cX9_back 93 = .ok (.iload_n 1, 1) := by decide +kernel
theorem dX9_back_94 : decode cX9_back 94 = .ok (.iaload, 1) := by decide +kernel
theorem dX9_back_95 : decode cX9_back 95 = .ok (.istore_n 3, 1) := by decide +kernel
theorem dX9_back_96 : decode cX9_back 96 = .ok (.aload_n 0, 1) := by decide +kernel
theorem dX9_back_97 : decode cX9_back 97 = .ok (.dup, 1) := by decide +kernel
theorem dX9_back_98 : decode cX9_back 98 = .ok (.getfield 301, 3) := by decide +kernel
theorem dX9_back_101 : decode cX9_back 101 = .ok (.iload_n 3, 1) := by decide +kernel
theorem dX9_back_102 : decode cX9_back 102 = .ok (.i2l, 1) := by decide +kernel
theorem dX9_back_103 : decode cX9_back 103 = .ok (.lsub, 1) := by decide +kernel
theorem dX9_back_104 : decode cX9_back 104 = .ok (.putfield 301, 3) := by decide +kernel
theorem dX9_back_107 : decode cX9_back 107 = .ok (.aload_n 0, 1) := by decide +kernel
theorem dX9_back_108 : decode cX9_back 108 = .ok (.getfield 136, 3) := by decide +kernel
theorem dX9_back_111 : decode cX9_back 111 = .ok (.iload_n 1, 1) := by decide +kernel
theorem dX9_back_112 : decode cX9_back 112 = .ok (.iconst 0, 1) := by decide +kernel
theorem dX9_back_113 : decode cX9_back 113 = .ok (.iastore, 1) := by decide +kernel
theorem dX9_back_114 : decode cX9_back 114 = .ok (.aload_n 0, 1) := by decide +kernel
theorem dX9_back_115 : decode cX9_back 115 = .ok (.getfield 133, 3) := by decide +kernel
theorem dX9_back_118 : decode cX9_back 118 = .ok (.iload_n 1, 1) := by decide +kernel
theorem dX9_back_119 : decode cX9_back 119 = .ok (.aload_n 0, 1) := by decide +kernel
theorem dX9_back_120 : decode cX9_back 120 = .ok (.getfield 248, 3) := by decide +kernel
theorem dX9_back_123 : decode cX9_back 123 = .ok (.iastore, 1) := by decide +kernel
theorem dX9_back_124 : decode cX9_back 124 = .ok (.aload_n 0, 1) := by decide +kernel
theorem dX9_back_125 : decode cX9_back 125 = .ok (.getfield 130, 3) := by decide +kernel
theorem dX9_back_128 : decode cX9_back 128 = .ok (.iload_n 1, 1) := by decide +kernel
theorem dX9_back_129 : decode cX9_back 129 = .ok (.iload_n 2, 1) := by decide +kernel
theorem dX9_back_130 : decode cX9_back 130 = .ok (.iconst 1, 1) := by decide +kernel
theorem dX9_back_131 : decode cX9_back 131 = .ok (.if_icmp .ne 7, 3) := by decide +kernel
theorem dX9_back_134 : decode cX9_back 134 = .ok (.iconst 2, 1) := by decide +kernel
theorem dX9_back_135 : decode cX9_back 135 = .ok (.goto 4, 3) := by decide +kernel
theorem dX9_back_138 : decode cX9_back 138 = .ok (.iconst 0, 1) := by decide +kernel
theorem dX9_back_139 : decode cX9_back 139 = .ok (.iastore, 1) := by decide +kernel
theorem dX9_back_140 : decode cX9_back 140 = .ok (.aload_n 0, 1) := by decide +kernel
theorem dX9_back_141 : decode cX9_back 141 = .ok (.getfield 103, 3) := by decide +kernel
theorem dX9_back_144 : decode cX9_back 144 = .ok (.aload_n 0, 1) := by decide +kernel
theorem dX9_back_145 : decode cX9_back 145 = .ok (.iload_n 1, 1) := by decide +kernel
theorem dX9_back_146 : decode cX9_back 146 = .ok (.invokevirtual 251, 3) := by decide +kernel
theorem dX9_back_149 : decode cX9_back 149 = .ok (.dup2, 1) := by decide +kernel
theorem dX9_back_150 : decode cX9_back 150 = .ok (.laload, 1) := by decide +kernel
theorem dX9_back_151 : decode cX9_back 151 = .ok (.aload_n 0, 1) := by decide +kernel
theorem dX9_back_152 : decode cX9_back 152 = .ok (.iload_n 1, 1) := by decide +kernel
theorem dX9_back_153 : decode cX9_back 153 = .ok (.invokevirtual 255, 3) := by decide +kernel
theorem dX9_back_156 : decode cX9_back 156 = .ok (.i2l, 1) := by decide +kernel
theorem dX9_back_157 : decode cX9_back 157 = .ok (.lsub, 1) := by decide +kernel
theorem dX9_back_158 : decode cX9_back 158 = .ok (.lastore, 1) := by decide +kernel
theorem dX9_back_159 : decode cX9_back 159 = .ok (.iload_n 2, 1) := by decide +kernel
theorem dX9_back_160 : decode cX9_back 160 = .ok (.iconst 1, 1) := by decide +kernel
theorem dX9_back_161 : decode cX9_back 161 = .ok (.if_icmp .ne 25, 3) := by decide +kernel
theorem dX9_back_164 : decode cX9_back 164 = .ok (.aload_n 0, 1) := by decide +kernel
theorem dX9_back_165 : decode cX9_back 165 = .ok (.getfield 112, 3) := by decide +kernel
theorem dX9_back_168 : decode cX9_back 168 = .ok (.aload_n 0, 1) := by decide +kernel
theorem dX9_back_169 : decode cX9_back 169 = .ok (.iload_n 1, 1) := by decide +kernel
theorem dX9_back_170 : decode cX9_back 170 = .ok (.invokevirtual 251, 3) := by decide +kernel
theorem dX9_back_173 : decode cX9_back 173 = .ok (.dup2, 1) := by decide +kernel
theorem dX9_back_174 : decode cX9_back 174 = .ok (.laload, 1) := by decide +kernel
theorem dX9_back_175 : decode cX9_back 175 = .ok (.aload_n 0, 1) := by decide +kernel
theorem dX9_back_176 : decode cX9_back 176 = .ok (.iload_n 1, 1) := by decide +kernel
theorem dX9_back_177 : decode cX9_back 177 = .ok (.invokevirtual 255, 3) := by decide +kernel
theorem dX9_back_180 : decode cX9_back 180 = .ok (.i2l, 1) := by decide +kernel
theorem dX9_back_181 : decode cX9_back 181 = .ok (.ladd, 1) := by decide +kernel
theorem dX9_back_182 : decode cX9_back 182 = .ok (.lastore, 1) := by decide +kernel
theorem dX9_back_183 : decode cX9_back 183 = .ok (.goto 32, 3) := by decide +kernel
theorem dX9_back_186 : decode cX9_back 186 = .ok (.aload_n 0, 1) := by decide +kernel
theorem dX9_back_187 : decode cX9_back 187 = .ok (.getfield 109, 3) := by decide +kernel
theorem dX9_back_190 : decode cX9_back 190 = .ok (.aload_n 0, 1) := by decide +kernel
theorem dX9_back_191 : decode cX9_back 191 = .ok (.iload_n 1, 1) := by decide +kernel
theorem dX9_back_192 : decode cX9_back 192 = .ok (.invokevirtual 251, 3) := by decide +kernel
theorem dX9_back_195 : decode cX9_back 195 = .ok (.dup2, 1) := by decide +kernel
theorem dX9_back_196 : decode cX9_back 196 = .ok (.laload, 1) := by decide +kernel
theorem dX9_back_197 : decode cX9_back 197 = .ok (.aload_n 0, 1) := by decide +kernel
theorem dX9_back_198 : decode cX9_back 198 = .ok (.iload_n 1, 1) := by decide +kernel
theorem dX9_back_199 : decode cX9_back 199 = .ok (.invokevirtual 255, 3) := by decide +kernel
theorem dX9_back_202 : decode cX9_back 202 = .ok (.i2l, 1) := by decide +kernel
theorem dX9_back_203 : decode cX9_back 203 = .ok (.ladd, 1) := by decide +kernel
theorem dX9_back_204 : decode cX9_back 204 = .ok (.lastore, 1) := by decide +kernel
theorem dX9_back_205 : decode cX9_back 205 = .ok (.aload_n 0, 1) := by decide +kernel
theorem dX9_back_206 : decode cX9_back 206 = .ok (.dup, 1) := by decide +kernel
theorem dX9_back_207 : decode cX9_back 207 = .ok (.getfield 258, 3) := by decide +kernel
theorem dX9_back_210 : decode cX9_back 210 = .ok (.iconst 1, 1) := by decide +kernel
theorem dX9_back_211 : decode cX9_back 211 = .ok (.iadd, 1) := by decide +kernel
theorem dX9_back_212 : decode cX9_back 212 = .ok (.putfield 258, 3) := by decide +kernel
theorem dX9_back_215 : decode cX9_back 215 = .ok (.iload_n 3, 1) := by decide +kernel
theorem dX9_back_216 : decode cX9_back 216 = .ok (.ireturn, 1) := by decide +kernel
theorem dX9_findBest_0 : decode cX9_findBest 0 = .ok (.aload_n 0, 1) := by decide +kernel
theorem dX9_findBest_1 : decode cX9_findBest 1 = .ok (.iconst 0, 1) := by decide +kernel
theorem dX9_findBest_2 : decode cX9_findBest 2 = .ok (.putfield 308, 3) := by decide +kernel
theorem dX9_findBest_5 : decode cX9_findBest 5 = .ok (.aload_n 0, 1) := by decide +kernel
theorem dX9_findBest_6 : decode cX9_findBest 6 = .ok (.getfield 97, 3) := by decide +kernel
theorem dX9_findBest_9 : decode cX9_findBest 9 = .ok (.iload_n 1, 1) := by decide +kernel
theorem dX9_findBest_10 : decode cX9_findBest 10 = .ok (.baload, 1) := by decide +kernel
theorem dX9_findBest_11 : decode cX9_findBest 11 = .ok (.ifCond .eq 5, 3) := by decide +kernel
theorem dX9_findBest_14 : decode cX9_findBest 14 = .ok (.iconst 0, 1) := by decide +kernel
theorem dX9_findBest_15 : decode cX9_findBest 15 = .ok (.ireturn, 1) := by decide +kernel
theorem dX9_findBest_16 : decode cX9_findBest 16 = .ok (.bipush 24, 2) := by decide +kernel
theorem dX9_findBest_18 : decode cX9_findBest 18 = .ok (.aload_n 0, 1) := by decide +kernel
theorem dX9_findBest_19 : decode cX9_findBest 19 = .ok (.getfield 73, 3) := by decide +kernel
theorem dX9_findBest_22 : decode cX9_findBest 22 = .ok (.iload_n 1, 1) := by decide +kernel
theorem dX9_findBest_23 : decode cX9_findBest 23 = .ok (.iaload, 1) := by decide +kernel
theorem dX9_findBest_24 : decode cX9_findBest 24 = .ok (.imul, 1) := by decide +kernel
theorem dX9_findBest_25 : decode cX9_findBest 25 = .ok (.istore_n 3, 1) := by decide +kernel
theorem dX9_findBest_26 : decode cX9_findBest 26 = .ok (.iconst 0, 1) := by decide +kernel
theorem dX9_findBest_27 : decode cX9_findBest 27 = .ok (.istore 4, 2) := by decide +kernel
theorem dX9_findBest_29 : decode cX9_findBest 29 = .ok (.iload 4, 2) := by decide +kernel
theorem dX9_findBest_31 : decode cX9_findBest 31 = .ok (.aload_n 0, 1) := by decide +kernel
theorem dX9_findBest_32 : decode cX9_findBest 32 = .ok (.getfield 82, 3) := by decide +kernel
theorem dX9_findBest_35 : decode cX9_findBest 35 = .ok (.iload_n 1, 1) := by decide +kernel
theorem dX9_findBest_36 : decode cX9_findBest 36 = .ok (.iaload, 1) := by decide +kernel
theorem dX9_findBest_37 : decode cX9_findBest 37 = .ok (.if_icmp .ge 17, 3) := by decide +kernel
theorem dX9_findBest_40 : decode cX9_findBest 40 = .ok (.aload_n 0, 1) := by decide +kernel
theorem dX9_findBest_41 : decode cX9_findBest 41 = .ok (.getfield 148, 3) := by decide +kernel
theorem dX9_findBest_44 : decode cX9_findBest 44 = .ok (.iload 4, 2) := by decide +kernel
theorem dX9_findBest_46 : decode cX9_findBest 46 = .ok (.iconst 0, 1) := by decide +kernel
theorem dX9_findBest_47 : decode cX9_findBest 47 = .ok (.iastore, 1) := by decide +kernel
theorem dX9_findBest_48 : decode cX9_findBest 48 = .ok (.iinc 4 1, 3) := by decide +kernel
theorem dX9_findBest_51 : decode cX9_findBest 51 = .ok (.goto (-22), 3) := by decide +kernel
theorem dX9_findBest_54 : decode cX9_findBest 54 = .ok (.aload_n 0, 1) := by decide +kernel
theorem dX9_findBest_55 : decode cX9_findBest 55 = .ok (.getfield 82, 3) := by decide +kernel
theorem dX9_findBest_58 : decode cX9_findBest 58 = .ok (.iload_n 1, 1) := by decide +kernel
theorem dX9_findBest_59 : decode cX9_findBest 59 = .ok (.iaload, 1) := by decide +kernel
theorem dX9_findBest_60 : decode cX9_findBest 60 = .ok (.iconst 1, 1) := by decide +kernel
theorem dX9_findBest_61 : decode cX9_findBest 61 = .ok (.isub, 1) := by decide +kernel
theorem dX9_findBest_62 : decode cX9_findBest 62 = .ok (.istore 4, 2) := by decide +kernel
theorem dX9_findBest_64 : decode cX9_findBest 64 = .ok (.iload 4, 2) := by decide +kernel
theorem dX9_findBest_66 : decode cX9_findBest 66 = .ok (.ifCond .lt 191, 3) := by decide +kernel
theorem dX9_findBest_69 : decode cX9_findBest 69 = .ok (.aload_n 0, 1) := by decide +kernel
theorem dX9_findBest_70 : decode cX9_findBest 70 = .ok (.getfield 49, 3) := by decide +kernel
theorem dX9_findBest_73 : decode cX9_findBest 73 = .ok (.iload_n 3, 1) := by decide +kernel
theorem dX9_findBest_74 : decode cX9_findBest 74 = .ok (.iload 4, 2) := by decide +kernel
theorem dX9_findBest_76 : decode cX9_findBest 76 = .ok (.iadd, 1) := by decide +kernel
theorem dX9_findBest_77 : decode cX9_findBest 77 = .ok (.iaload, 1) := by decide +kernel
theorem dX9_findBest_78 : decode cX9_findBest 78 = .ok (.istore 5, 2) := by decide +kernel
theorem dX9_findBest_80 : decode cX9_findBest 80 = .ok (.aload_n 0, 1) := by decide +kernel
theorem dX9_findBest_81 : decode cX9_findBest 81 = .ok (.iload_n 1, 1) := by decide +kernel
theorem dX9_findBest_82 : decode cX9_findBest 82 = .ok (.iload 4, 2) := by decide +kernel
theorem dX9_findBest_84 : decode cX9_findBest 84 = .ok (.invokevirtual 264, 3) := by decide +kernel
theorem dX9_findBest_87 : decode cX9_findBest 87 = .ok (.ifCond .eq 34, 3) := by decide +kernel
theorem dX9_findBest_90 : decode cX9_findBest 90 = .ok (.iload 5, 2) := by decide +kernel
theorem dX9_findBest_92 : decode cX9_findBest 92 = .ok (.iconst 5, 1) := by decide +kernel
theorem dX9_findBest_93 : decode cX9_findBest 93 = .ok (.if_icmp .eq 28, 3) := by decide +kernel
theorem dX9_findBest_96 : decode cX9_findBest 96 = .ok (.iload 5, 2) := by decide +kernel
theorem dX9_findBest_98 : decode cX9_findBest 98 = .ok (.iconst 3, 1) := by decide +kernel
theorem dX9_findBest_99 : decode cX9_findBest 99 = .ok (.if_icmp .eq 9, 3) := by decide +kernel
theorem dX9_findBest_102 : decode cX9_findBest 102 = .ok (.iload 5, 2) := by decide +kernel
theorem dX9_findBest_104 : decode cX9_findBest 104 = .ok (.iconst 4, 1) := by decide +kernel
theorem dX9_findBest_105 : decode cX9_findBest 105 = .ok (.if_icmp .ne 12, 3) := by decide +kernel
theorem dX9_findBest_108 : decode cX9_findBest 108 = .ok (.aload_n 0, 1) := by decide +kernel
theorem dX9_findBest_109 : decode cX9_findBest 109 = .ok (.getfield 91, 3) := by decide +kernel
theorem dX9_findBest_112 : decode cX9_findBest 112 = .ok (.iload_n 1, 1) := by decide +kernel
theorem dX9_findBest_113 : decode cX9_findBest 113 = .ok (.baload, 1) := by decide +kernel
theorem dX9_findBest_114 : decode cX9_findBest 114 = .ok (.ifCond .eq 7, 3) := by decide +kernel
theorem dX9_findBest_117 : decode cX9_findBest 117 = .ok (.iconst 1, 1) := by decide +kernel
theorem dX9_findBest_118 : decode cX9_findBest 118 = .ok (.goto 4, 3) := by decide +kernel
theorem dX9_findBest_121 : decode cX9_findBest 121 = .ok (.iconst 0, 1) := by decide +kernel
theorem dX9_findBest_122 : decode cX9_findBest 122 = .ok (.istore 6, 2) := by decide +kernel
theorem dX9_findBest_124 : decode cX9_findBest 124 = .ok (.iload 6, 2) := by decide +kernel
theorem dX9_findBest_126 : decode cX9_findBest 126 = .ok (.ifCond .ne 14, 3) := by decide +kernel
theorem dX9_findBest_129 : decode cX9_findBest 129 = .ok (.aload_n 0, 1) := by decide +kernel
theorem dX9_findBest_130 : decode cX9_findBest 130 = .ok (.getfield 148, 3) := by decide +kernel
theorem dX9_findBest_133 : decode cX9_findBest 133 = .ok (.iload 4, 2) := by decide +kernel
theorem dX9_findBest_135 : decode cX9_findBest 135 = .ok (.iconst (-1), 1) := by decide +kernel
theorem dX9_findBest_136 : decode cX9_findBest 136 = .ok (.iastore, 1) := by decide +kernel
theorem dX9_findBest_137 : decode cX9_findBest 137 = .ok (.goto 114, 3) := by decide +kernel
theorem dX9_findBest_140 : decode cX9_findBest 140 = .ok (.aload_n 0, 1) := by decide +kernel
theorem dX9_findBest_141 : decode cX9_findBest 141 = .ok (.getfield 148, 3) := by decide +kernel
theorem dX9_findBest_144 : decode cX9_findBest 144 = .ok (.iload 4, 2) := by decide +kernel
theorem dX9_findBest_146 : decode cX9_findBest 146 = .ok (.dup2, 1) := by decide +kernel
theorem dX9_findBest_147 : decode cX9_findBest 147 = .ok (.iaload, 1) := by decide +kernel
theorem dX9_findBest_148 : decode cX9_findBest 148 = .ok (.iload 5, 2) := by decide +kernel
theorem dX9_findBest_150 : decode cX9_findBest 150 = .ok (.iconst 2, 1) := by decide +kernel
theorem dX9_findBest_151 : decode cX9_findBest 151 = .ok (.if_icmp .eq 9, 3) := by decide +kernel
theorem dX9_findBest_154 : decode cX9_findBest 154 = .ok (.iload 5, 2) := by decide +kernel
theorem dX9_findBest_156 : decode cX9_findBest 156 = .ok (.iconst 1, 1) := by decide +kernel
theorem dX9_findBest_157 : decode cX9_findBest 157 = .ok (.if_icmp .ne 17, 3) := by decide +kernel
theorem dX9_findBest_160 : decode cX9_findBest 160 = .ok (.aload_n 0, 1) := by decide +kernel
theorem dX9_findBest_161 : decode cX9_findBest 161 = .ok (.getfield 67, 3) := by decide +kernel
theorem dX9_findBest_164 : decode cX9_findBest 164 = .ok (.iload_n 3, 1) := by decide +kernel
theorem dX9_findBest_165 : decode cX9_findBest 165 = .ok (.iload 4, 2) := by decide +kernel
theorem dX9_findBest_167 : decode cX9_findBest 167 = .ok (.iadd, 1) := by decide +kernel
theorem dX9_findBest_168 : decode cX9_findBest 168 = .ok (.iaload, 1) := by decide +kernel
theorem dX9_findBest_169 : decode cX9_findBest 169 = .ok (.iconst 2, 1) := by decide +kernel
theorem dX9_findBest_170 : decode cX9_findBest 170 = .ok (.idiv, 1) := by decide +kernel
theorem dX9_findBest_171 : decode cX9_findBest 171 = .ok (.goto 12, 3) := by decide +kernel
theorem dX9_findBest_174 : decode cX9_findBest 174 = .ok (.aload_n 0, 1) := by decide +kernel
theorem dX9_findBest_175 : decode cX9_findBest 175 = .ok (.getfield 67, 3) := by decide +kernel
theorem dX9_findBest_178 : decode cX9_findBest 178 = .ok (.iload_n 3, 1) := by decide +kernel
theorem dX9_findBest_179 : decode cX9_findBest 179 = .ok (.iload 4, 2) := by decide +kernel
theorem dX9_findBest_181 : decode cX9_findBest 181 = .ok (.iadd, 1) := by decide +kernel
theorem dX9_findBest_182 : decode cX9_findBest 182 = .ok (.iaload, 1) := by decide +kernel
theorem dX9_findBest_183 : decode cX9_findBest 183 = .ok (.aload_n 0, 1) := by decide +kernel
theorem dX9_findBest_184 : decode cX9_findBest 184 = .ok (.getfield 58, 3) := by decide +kernel
theorem dX9_findBest_187 : decode cX9_findBest 187 = .ok (.iload_n 3, 1) := by decide +kernel
theorem dX9_findBest_188 : decode cX9_findBest 188 = .ok (.iload 4, 2) := by decide +kernel
theorem dX9_findBest_190 : decode cX9_findBest 190 = .ok (.iadd, 1) := by decide +kernel
theorem dX9_findBest_191 : decode cX9_findBest 191 = .ok (.iaload, 1) := by decide +kernel
theorem dX9_findBest_192 : decode cX9_findBest 192 = .ok (.iload_n 2, 1) := by decide +kernel
theorem dX9_findBest_193 : decode cX9_findBest 193 = .ok (.imul, 1) := by decide +kernel
theorem dX9_findBest_194 : decode cX9_findBest 194 = .ok (.isub, 1) := by decide +kernel
theorem dX9_findBest_195 : decode cX9_findBest 195 = .ok (.iadd, 1) := by decide +kernel
theorem dX9_findBest_196 : decode cX9_findBest 196 = .ok (.iastore, 1) := by decide +kernel
theorem dX9_findBest_197 : decode cX9_findBest 197 = .ok (.aload_n 0, 1) := by decide +kernel
theorem dX9_findBest_198 : decode cX9_findBest 198 = .ok (.getfield 55, 3) := by decide +kernel
theorem dX9_findBest_201 : decode cX9_findBest 201 = .ok (.iload_n 3, 1) := by decide +kernel
theorem dX9_findBest_202 : decode cX9_findBest 202 = .ok (.iload 4, 2) := by decide +kernel
theorem dX9_findBest_204 : decode cX9_findBest 204 = .ok (.iadd, 1) := by decide +kernel
theorem dX9_findBest_205 : decode cX9_findBest 205 = .ok (.iaload, 1) := by decide +kernel
theorem dX9_findBest_206 : decode cX9_findBest 206 = .ok (.istore 7, 2) := by decide +kernel
theorem dX9_findBest_208 : decode cX9_findBest 208 = .ok (.aload_n 0, 1) := by decide +kernel
theorem dX9_findBest_209 : decode cX9_findBest 209 = .ok (.getfield 148, 3) := by decide +kernel
theorem dX9_findBest_212 : decode cX9_findBest 212 = .ok (.iload 4, 2) := by decide +kernel
theorem dX9_findBest_214 : decode cX9_findBest 214 = .ok (.iaload, 1) := by decide +kernel
theorem dX9_findBest_215 : decode cX9_findBest 215 = .ok (.ifCond .le 36, 3) := by decide +kernel
theorem dX9_findBest_218 : decode cX9_findBest 218 = .ok (.iload 7, 2) := by decide +kernel
theorem dX9_findBest_220 : decode cX9_findBest 220 = .ok (.iconst (-1), 1) := by decide +kernel
theorem dX9_findBest_221 : decode cX9_findBest 221 = .ok (.if_icmp .eq 30, 3) := by decide +kernel
theorem dX9_findBest_224 : decode cX9_findBest 224 = .ok (.aload_n 0, 1) := by decide +kernel
theorem dX9_findBest_225 : decode cX9_findBest 225 = .ok (.iload_n 1, 1) := by decide +kernel
theorem dX9_findBest_226 : decode cX9_findBest 226 = .ok (.iload 7, 2) := by decide +kernel
theorem dX9_findBest_228 : decode cX9_findBest 228 = .ok (.invokevirtual 264, 3) := by decide +kernel
theorem dX9_findBest_231 : decode cX9_findBest 231 = .ok (.ifCond .eq 20, 3) := by decide +kernel
theorem dX9_findBest_234 : decode cX9_findBest 234 = .ok (.aload_n 0, 1) := by decide +kernel
theorem dX9_findBest_235 : decode cX9_findBest 235 = .ok (.getfield 148, 3) := by decide +kernel
theorem dX9_findBest_238 : decode cX9_findBest 238 = .ok (.iload 7, 2) := by decide +kernel
theorem dX9_findBest_240 : decode cX9_findBest 240 = .ok (.dup2, 1) := by decide +kernel
theorem dX9_findBest_241 : decode cX9_findBest 241 = .ok (.iaload, 1) := by decide +kernel
theorem dX9_findBest_242 : decode cX9_findBest 242 = .ok (.aload_n 0, 1) := by decide +kernel
theorem dX9_findBest_243 : decode cX9_findBest 243 = .ok (.getfield 148, 3) := by decide +kernel
theorem dX9_findBest_246 : decode cX9_findBest 246 = .ok (.iload 4, 2) := by decide +kernel
theorem dX9_findBest_248 : decode cX9_findBest 248 = .ok (.iaload, 1) := by decide +kernel
theorem dX9_findBest_249 : decode cX9_findBest 249 = .ok (.iadd, 1) := by decide +kernel
theorem dX9_findBest_250 : decode cX9_findBest 250 = .ok (.iastore, 1) := by decide +kernel
theorem dX9_findBest_251 : decode cX9_findBest 251 = .ok (.iinc 4 (-1), 3) := by decide +kernel
theorem dX9_findBest_254 : decode cX9_findBest 254 = .ok (.goto (-190), 3) := by decide +kernel
theorem dX9_findBest_257 : decode cX9_findBest 257 = .ok (.iconst 0, 1) := by decide +kernel
theorem dX9_findBest_258 : decode cX9_findBest 258 = .ok (.istore 4, 2) := by decide +kernel
theorem dX9_findBest_260 : decode cX9_findBest 260 = .ok (.iconst 0, 1) := by decide +kernel
theorem dX9_findBest_261 : decode cX9_findBest 261 = .ok (.istore 5, 2) := by decide +kernel
theorem dX9_findBest_263 : decode cX9_findBest 263 = .ok (.iload 5, 2) := by decide +kernel
theorem dX9_findBest_265 : decode cX9_findBest 265 = .ok (.aload_n 0, 1) := by decide +kernel
theorem dX9_findBest_266 : decode cX9_findBest 266 = .ok (.getfield 82, 3) := by decide +kernel
theorem dX9_findBest_269 : decode cX9_findBest 269 = .ok (.iload_n 1, 1) := by decide +kernel
theorem dX9_findBest_270 : decode cX9_findBest 270 = .ok (.iaload, 1) := by decide +kernel
theorem dX9_findBest_271 : decode cX9_findBest 271 = .ok (.if_icmp .ge 105, 3) := by decide +kernel
theorem dX9_findBest_274 : decode cX9_findBest 274 = .ok (.aload_n 0, 1) := by decide +kernel
theorem dX9_findBest_275 : decode cX9_findBest 275 = .ok (.getfield 55, 3) := by decide +kernel
theorem dX9_findBest_278 : decode cX9_findBest 278 = .ok (.iload_n 3, 1) := by decide +kernel
theorem dX9_findBest_279 : decode cX9_findBest 279 = .ok (.iload 5, 2) := by decide +kernel
theorem dX9_findBest_281 : decode cX9_findBest 281 = .ok (.iadd, 1) := by decide +kernel
theorem dX9_findBest_282 : decode cX9_findBest 282 = .ok (.iaload, 1) := by decide +kernel
theorem dX9_findBest_283 : decode cX9_findBest 283 = .ok (.istore 6, 2) := by decide +kernel
theorem dX9_findBest_285 : decode cX9_findBest 285 = .ok (.iload 6, 2) := by decide +kernel
theorem dX9_findBest_287 : decode cX9_findBest 287 = .ok (.iconst (-1), 1) := by decide +kernel
theorem dX9_findBest_288 : decode cX9_findBest 288 = .ok (.if_icmp .eq 17, 3) := by decide +kernel
theorem dX9_findBest_291 : decode cX9_findBest 291 = .ok (.aload_n 0, 1) := by decide +kernel
theorem dX9_findBest_292 : decode cX9_findBest 292 = .ok (.iload_n 1, 1) := by decide +kernel
theorem dX9_findBest_293 : decode cX9_findBest 293 = .ok (.iload 6, 2) := by decide +kernel
theorem dX9_findBest_295 : decode cX9_findBest 295 = .ok (.invokevirtual 264, 3) := by decide +kernel
theorem dX9_findBest_298 : decode cX9_findBest 298 = .ok (.ifCond .eq 7, 3) := by decide +kernel
theorem dX9_findBest_301 : decode cX9_findBest 301 = .ok (.iconst 1, 1) := by decide +kernel
theorem dX9_findBest_302 : decode cX9_findBest 302 = .ok (.goto 4, 3) := by decide +kernel
theorem dX9_findBest_305 : decode cX9_findBest 305 = .ok (.iconst 0, 1) := by decide +kernel
theorem dX9_findBest_306 : decode cX9_findBest 306 = .ok (.istore 7, 2) := by decide +kernel
theorem dX9_findBest_308 : decode cX9_findBest 308 = .ok (.aload_n 0, 1) := by decide +kernel
theorem dX9_findBest_309 : decode cX9_findBest 309 = .ok (.getfield 148, 3) := by decide +kernel
theorem dX9_findBest_312 : decode cX9_findBest 312 = .ok (.iload 5, 2) := by decide +kernel
theorem dX9_findBest_314 : decode cX9_findBest 314 = .ok (.iaload, 1) := by decide +kernel
theorem dX9_findBest_315 : decode cX9_findBest 315 = .ok (.ifCond .le 55, 3) := by decide +kernel
theorem dX9_findBest_318 : decode cX9_findBest 318 = .ok (.iload 7, 2) := by decide +kernel
theorem dX9_findBest_320 : decode cX9_findBest 320 = .ok (.ifCond .eq 16, 3) := by decide +kernel
theorem dX9_findBest_323 : decode cX9_findBest 323 = .ok (.iload 4, 2) := by decide +kernel
theorem dX9_findBest_325 : decode cX9_findBest 325 = .ok (.iload 6, 2) := by decide +kernel
theorem dX9_findBest_327 : decode cX9_findBest 327 = .ok (.ishr, 1) := by decide +kernel
theorem dX9_findBest_328 : decode cX9_findBest 328 = .ok (.iconst 1, 1) := by decide +kernel
theorem dX9_findBest_329 : decode cX9_findBest 329 = .ok (.iand, 1) := by decide +kernel
theorem dX9_findBest_330 : decode cX9_findBest 330 = .ok (.ifCond .ne 6, 3) := by decide +kernel
theorem dX9_findBest_333 : decode cX9_findBest 333 = .ok (.goto 37, 3) := by decide +kernel
theorem dX9_findBest_336 : decode cX9_findBest 336 = .ok (.iload 4, 2) := by decide +kernel
theorem dX9_findBest_338 : decode cX9_findBest 338 = .ok (.iconst 1, 1) := by decide +kernel
theorem dX9_findBest_339 : decode cX9_findBest 339 = .ok (.iload 5, 2) := by decide +kernel
theorem dX9_findBest_341 : decode cX9_findBest 341 = .ok (.ishl, 1) := by decide +kernel
theorem dX9_findBest_342 : decode cX9_findBest 342 = .ok (.ior, 1) := by decide +kernel
theorem dX9_findBest_343 : decode cX9_findBest 343 = .ok (.istore 4, 2) := by decide +kernel
theorem dX9_findBest_345 : decode cX9_findBest 345 = .ok (.aload_n 0, 1) := by decide +kernel
theorem dX9_findBest_346 : decode cX9_findBest 346 = .ok (.dup, 1) := by decide +kernel
theorem dX9_findBest_347 : decode cX9_findBest 347 = .ok (.getfield 308, 3) := by decide +kernel
theorem dX9_findBest_350 : decode cX9_findBest 350 = .ok (.iload 7, 2) := by decide +kernel
theorem dX9_findBest_352 : decode cX9_findBest 352 = .ok (.ifCond .eq 7, 3) := by decide +kernel
theorem dX9_findBest_355 : decode cX9_findBest 355 = .ok (.iconst 0, 1) := by decide +kernel
theorem dX9_findBest_356 : decode cX9_findBest 356 = .ok (.goto 10, 3) := by decide +kernel
theorem dX9_findBest_359 : decode cX9_findBest 359 = .ok (.aload_n 0, 1) := by decide +kernel
theorem dX9_findBest_360 : decode cX9_findBest 360 = .ok (.getfield 148, 3) := by decide +kernel
theorem dX9_findBest_363 : decode cX9_findBest 363 = .ok (.iload 5, 2) := by decide +kernel
theorem dX9_findBest_365 : decode cX9_findBest 365 = .ok (.iaload, 1) := by decide +kernel
theorem dX9_findBest_366 : decode cX9_findBest 366 = .ok (.iadd, 1) := by decide +kernel
theorem dX9_findBest_367 : decode cX9_findBest 367 = .ok (.putfield 308, 3) := by decide +kernel
theorem dX9_findBest_370 : decode cX9_findBest 370 = .ok (.iinc 5 1, 3) := by decide +kernel
theorem dX9_findBest_373 : decode cX9_findBest 373 = .ok (.goto (-110), 3) := by decide +kernel
theorem dX9_findBest_376 : decode cX9_findBest 376 = .ok (.iload 4, 2) := by decide +kernel
theorem dX9_findBest_378 : decode cX9_findBest 378 = .ok (.ireturn, 1) := by decide +kernel
theorem dX9_best_0 : decode cX9_best 0 = .ok (.aload_n 0, 1) := by decide +kernel
theorem dX9_best_1 : decode cX9_best 1 = .ok (.iconst 0, 1) := by decide +kernel
theorem dX9_best_2 : decode cX9_best 2 = .ok (.putfield 1, 3) := by decide +kernel
theorem dX9_best_5 : decode cX9_best 5 = .ok (.aload_n 0, 1) := by decide +kernel
theorem dX9_best_6 : decode cX9_best 6 = .ok (.iload_n 1, 1) := by decide +kernel
theorem dX9_best_7 : decode cX9_best 7 = .ok (.invokevirtual 268, 3) := by decide +kernel
theorem dX9_best_10 : decode cX9_best 10 = .ok (.ifCond .eq 36, 3) := by decide +kernel
theorem dX9_best_13 : decode cX9_best 13 = .ok (.aload_n 0, 1) := by decide +kernel
theorem dX9_best_14 : decode cX9_best 14 = .ok (.iload_n 2, 1) := by decide +kernel
theorem dX9_best_15 : decode cX9_best 15 = .ok (.ifCond .lt 14, 3) := by decide +kernel
theorem dX9_best_18 : decode cX9_best 18 = .ok (.iload_n 2, 1) := by decide +kernel
theorem dX9_best_19 : decode cX9_best 19 = .ok (.sipush 1000, 3) := by decide +kernel
theorem dX9_best_22 : decode cX9_best 22 = .ok (.if_icmp .gt 7, 3) := by decide +kernel
theorem dX9_best_25 : decode cX9_best 25 = .ok (.iconst 1, 1) := by decide +kernel
theorem dX9_best_26 : decode cX9_best 26 = .ok (.goto 4, 3) := by decide +kernel
theorem dX9_best_29 : decode cX9_best 29 = .ok (.iconst 0, 1) := by decide +kernel
theorem dX9_best_30 : decode cX9_best 30 = .ok (.iconst 2, 1) := by decide +kernel
theorem dX9_best_31 : decode cX9_best 31 = .ok (.invokevirtual 151, 3) := by decide +kernel
theorem dX9_best_34 : decode cX9_best 34 = .ok (.ifCond .eq 12, 3) := by decide +kernel
theorem dX9_best_37 : decode cX9_best 37 = .ok (.aload_n 0, 1) := by decide +kernel
theorem dX9_best_38 : decode cX9_best 38 = .ok (.iload_n 1, 1) := by decide +kernel
theorem dX9_best_39 : decode cX9_best 39 = .ok (.iload_n 2, 1) := by decide +kernel
theorem dX9_best_40 : decode cX9_best 40 = .ok (.invokevirtual 311, 3) := by decide +kernel
theorem dX9_best_43 : decode cX9_best 43 = .ok (.goto 4, 3) := by decide +kernel
theorem dX9_best_46 : decode cX9_best 46 = .ok (.iconst 0, 1) := by decide +kernel
theorem dX9_best_47 : decode cX9_best 47 = .ok (.ireturn, 1) := by decide +kernel
theorem dX9_worth_0 : decode cX9_worth 0 = .ok (.aload_n 0, 1) := by decide +kernel
theorem dX9_worth_1 : decode cX9_worth 1 = .ok (.iconst 0, 1) := by decide +kernel
theorem dX9_worth_2 : decode cX9_worth 2 = .ok (.putfield 1, 3) := by decide +kernel
theorem dX9_worth_5 : decode cX9_worth 5 = .ok (.aload_n 0, 1) := by decide +kernel
theorem dX9_worth_6 : decode cX9_worth 6 = .ok (.iload_n 1, 1) := by decide +kernel
theorem dX9_worth_7 : decode cX9_worth 7 = .ok (.invokevirtual 268, 3) := by decide +kernel
theorem dX9_worth_10 : decode cX9_worth 10 = .ok (.ifCond .eq 27, 3) := by decide +kernel
theorem dX9_worth_13 : decode cX9_worth 13 = .ok (.aload_n 0, 1) := by decide +kernel
theorem dX9_worth_14 : decode cX9_worth 14 = .ok (.iload_n 2, 1) := by decide +kernel
theorem dX9_worth_15 : decode cX9_worth 15 = .ok (.ifCond .lt 14, 3) := by decide +kernel
theorem dX9_worth_18 : decode cX9_worth 18 = .ok (.iload_n 2, 1) := by decide +kernel
theorem dX9_worth_19 : decode cX9_worth 19 = .ok (.sipush 1000, 3) := by decide +kernel
theorem dX9_worth_22 : decode cX9_worth 22 = .ok (.if_icmp .gt 7, 3) := by decide +kernel
theorem dX9_worth_25 : decode cX9_worth 25 = .ok (.iconst 1, 1) := by decide +kernel
theorem dX9_worth_26 : decode cX9_worth 26 = .ok (.goto 4, 3) := by decide +kernel
theorem dX9_worth_29 : decode cX9_worth 29 = .ok (.iconst 0, 1) := by decide +kernel
theorem dX9_worth_30 : decode cX9_worth 30 = .ok (.iconst 2, 1) := by decide +kernel
theorem dX9_worth_31 : decode cX9_worth 31 = .ok (.invokevirtual 151, 3) := by decide +kernel
theorem dX9_worth_34 : decode cX9_worth 34 = .ok (.ifCond .ne 5, 3) := by decide +kernel
theorem dX9_worth_37 : decode cX9_worth 37 = .ok (.iconst 0, 1) := by decide +kernel
theorem dX9_worth_38 : decode cX9_worth 38 = .ok (.ireturn, 1) := by decide +kernel
theorem dX9_worth_39 : decode cX9_worth 39 = .ok (.aload_n 0, 1) := by decide +kernel
theorem dX9_worth_40 : decode cX9_worth 40 = .ok (.iload_n 1, 1) := by decide +kernel
theorem dX9_worth_41 : decode cX9_worth 41 = .ok (.iload_n 2, 1) := by decide +kernel
theorem dX9_worth_42 : decode cX9_worth 42 = .ok (.invokevirtual 311, 3) := by decide +kernel
theorem dX9_worth_45 : decode cX9_worth 45 = .ok (.pop, 1) := by decide +kernel
theorem dX9_worth_46 : decode cX9_worth 46 = .ok (.aload_n 0, 1) := by decide +kernel
theorem dX9_worth_47 : decode cX9_worth 47 = .ok (.getfield 308, 3) := by decide +kernel
theorem dX9_worth_50 : decode cX9_worth 50 = .ok (.ireturn, 1) := by decide +kernel
theorem dX9_grams_0 : decode cX9_grams 0 = .ok (.aload_n 0, 1) := by decide +kernel
theorem dX9_grams_1 : decode cX9_grams 1 = .ok (.iconst 0, 1) := by decide +kernel
theorem dX9_grams_2 : decode cX9_grams 2 = .ok (.putfield 1, 3) := by decide +kernel
theorem dX9_grams_5 : decode cX9_grams 5 = .ok (.aload_n 0, 1) := by decide +kernel
theorem dX9_grams_6 : decode cX9_grams 6 = .ok (.iload_n 1, 1) := by decide +kernel
theorem dX9_grams_7 : decode cX9_grams 7 = .ok (.ifCond .lt 21, 3) := by decide +kernel
theorem dX9_grams_10 : decode cX9_grams 10 = .ok (.iload_n 1, 1) := by decide +kernel
theorem dX9_grams_11 : decode cX9_grams 11 = .ok (.iconst 3, 1) := by decide +kernel
theorem dX9_grams_12 : decode cX9_grams 12 = .ok (.if_icmp .gt 16, 3) := by decide +kernel
theorem dX9_grams_15 : decode cX9_grams 15 = .ok (.iload_n 2, 1) := by decide +kernel
theorem dX9_grams_16 : decode cX9_grams 16 = .ok (.ifCond .lt 12, 3) := by decide +kernel
theorem dX9_grams_19 : decode cX9_grams 19 = .ok (.iload_n 2, 1) := by decide +kernel
theorem dX9_grams_20 : decode cX9_grams 20 = .ok (.iconst 5, 1) := by decide +kernel
theorem dX9_grams_21 : decode cX9_grams 21 = .ok (.if_icmp .gt 7, 3) := by decide +kernel
theorem dX9_grams_24 : decode cX9_grams 24 = .ok (.iconst 1, 1) := by decide +kernel
theorem dX9_grams_25 : decode cX9_grams 25 = .ok (.goto 4, 3) := by decide +kernel
theorem dX9_grams_28 : decode cX9_grams 28 = .ok (.iconst 0, 1) := by decide +kernel
theorem dX9_grams_29 : decode cX9_grams 29 = .ok (.iconst 1, 1) := by decide +kernel
theorem dX9_grams_30 : decode cX9_grams 30 = .ok (.invokevirtual 151, 3) := by decide +kernel
theorem dX9_grams_33 : decode cX9_grams 33 = .ok (.ifCond .ne 5, 3) := by decide +kernel
theorem dX9_grams_36 : decode cX9_grams 36 = .ok (.iconst 0, 1) := by decide +kernel
theorem dX9_grams_37 : decode cX9_grams 37 = .ok (.ireturn, 1) := by decide +kernel
theorem dX9_grams_38 : decode cX9_grams 38 = .ok (.iload_n 2, 1) := by decide +kernel
theorem dX9_grams_39 : decode cX9_grams 39 = .ok (.tableswitch 101 0 4 #[33, 41, 77, 85, 93], 33) := by decide +kernel
theorem dX9_grams_72 : decode cX9_grams 72 = .ok (.aload_n 0, 1) := by decide +kernel
theorem dX9_grams_73 : decode cX9_grams 73 = .ok (.getfield 100, 3) := by decide +kernel
theorem dX9_grams_76 : decode cX9_grams 76 = .ok (.iload_n 1, 1) := by decide +kernel
theorem dX9_grams_77 : decode cX9_grams 77 = .ok (.laload, 1) := by decide +kernel
theorem dX9_grams_78 : decode cX9_grams 78 = .ok (.l2i, 1) := by decide +kernel
theorem dX9_grams_79 : decode cX9_grams 79 = .ok (.ireturn, 1) := by decide +kernel
theorem dX9_grams_80 : decode cX9_grams 80 = .ok (.aload_n 0, 1) := by decide +kernel
theorem dX9_grams_81 : decode cX9_grams 81 = .ok (.getfield 100, 3) := by decide +kernel
theorem dX9_grams_84 : decode cX9_grams 84 = .ok (.iload_n 1, 1) := by decide +kernel
theorem dX9_grams_85 : decode cX9_grams 85 = .ok (.laload, 1) := by decide +kernel
theorem dX9_grams_86 : decode cX9_grams 86 = .ok (.aload_n 0, 1) := by decide +kernel
theorem dX9_grams_87 : decode cX9_grams 87 = .ok (.getfield 109, 3) := by decide +kernel
theorem dX9_grams_90 : decode cX9_grams 90 = .ok (.iload_n 1, 1) := by decide +kernel
theorem dX9_grams_91 : decode cX9_grams 91 = .ok (.laload, 1) := by decide +kernel
theorem dX9_grams_92 : decode cX9_grams 92 = .ok (.lsub, 1) := by decide +kernel
theorem dX9_grams_93 : decode cX9_grams 93 = .ok (.aload_n 0, 1) := by decide +kernel
theorem dX9_grams_94 : decode cX9_grams 94 = .ok (.getfield 103, 3) := by decide +kernel
theorem dX9_grams_97 : decode cX9_grams 97 = .ok (.iload_n 1, 1) := by decide +kernel
theorem dX9_grams_98 : decode cX9_grams 98 = .ok (.laload, 1) := by decide +kernel
theorem dX9_grams_99 : decode cX9_grams 99 = .ok (.lsub, 1) := by decide +kernel
theorem dX9_grams_100 : decode cX9_grams 100 = .ok (.aload_n 0, 1) := by decide +kernel
theorem dX9_grams_101 : decode cX9_grams 101 = .ok (.getfield 106, 3) := by decide +kernel
theorem dX9_grams_104 : decode cX9_grams 104 = .ok (.iload_n 1, 1) := by decide +kernel
theorem dX9_grams_105 : decode cX9_grams 105 = .ok (.laload, 1) := by decide +kernel
theorem dX9_grams_106 : decode cX9_grams 106 = .ok (.lsub, 1) := by decide +kernel
theorem dX9_grams_107 : decode cX9_grams 107 = .ok (.aload_n 0, 1) := by decide +kernel
theorem dX9_grams_108 : decode cX9_grams 108 = .ok (.getfield 112, 3) := by decide +kernel
theorem dX9_grams_111 : decode cX9_grams 111 = .ok (.iload_n 1, 1) := by decide +kernel
theorem dX9_grams_112 : decode cX9_grams 112 = .ok (.laload, 1) := by decide +kernel
theorem dX9_grams_113 : decode cX9_grams 113 = .ok (.lsub, 1) := by decide +kernel
theorem dX9_grams_114 : decode cX9_grams 114 = .ok (.l2i, 1) := by decide +kernel
theorem dX9_grams_115 : decode cX9_grams 115 = .ok (.ireturn, 1) := by decide +kernel
theorem dX9_grams_116 : decode cX9_grams 116 = .ok (.aload_n 0, 1) := by decide +kernel
theorem dX9_grams_117 : decode cX9_grams 117 = .ok (.getfield 109, 3) := by decide +kernel
theorem dX9_grams_120 : decode cX9_grams 120 = .ok (.iload_n 1, 1) := by decide +kernel
theorem dX9_grams_121 : decode cX9_grams 121 = .ok (.laload, 1) := by decide +kernel
theorem dX9_grams_122 : decode cX9_grams 122 = .ok (.l2i, 1) := by decide +kernel
theorem dX9_grams_123 : decode cX9_grams 123 = .ok (.ireturn, 1) := by decide +kernel
theorem dX9_grams_124 : decode cX9_grams 124 = .ok (.aload_n 0, 1) := by decide +kernel
theorem dX9_grams_125 : decode cX9_grams 125 = .ok (.getfield 103, 3) := by decide +kernel
theorem dX9_grams_128 : decode cX9_grams 128 = .ok (.iload_n 1, 1) := by decide +kernel
theorem dX9_grams_129 : decode cX9_grams 129 = .ok (.laload, 1) := by decide +kernel
theorem dX9_grams_130 : decode cX9_grams 130 = .ok (.l2i, 1) := by decide +kernel
theorem dX9_grams_131 : decode cX9_grams 131 = .ok (.ireturn, 1) := by decide +kernel
theorem dX9_grams_132 : decode cX9_grams 132 = .ok (.aload_n 0, 1) := by decide +kernel
theorem dX9_grams_133 : decode cX9_grams 133 = .ok (.getfield 106, 3) := by decide +kernel
theorem dX9_grams_136 : decode cX9_grams 136 = .ok (.iload_n 1, 1) := by decide +kernel
theorem dX9_grams_137 : decode cX9_grams 137 = .ok (.laload, 1) := by decide +kernel
theorem dX9_grams_138 : decode cX9_grams 138 = .ok (.l2i, 1) := by decide +kernel
theorem dX9_grams_139 : decode cX9_grams 139 = .ok (.ireturn, 1) := by decide +kernel
theorem dX9_grams_140 : decode cX9_grams 140 = .ok (.aload_n 0, 1) := by decide +kernel
theorem dX9_grams_141 : decode cX9_grams 141 = .ok (.getfield 112, 3) := by decide +kernel
theorem dX9_grams_144 : decode cX9_grams 144 = .ok (.iload_n 1, 1) := by decide +kernel
theorem dX9_grams_145 : decode cX9_grams 145 = .ok (.laload, 1) := by decide +kernel
theorem dX9_grams_146 : decode cX9_grams 146 = .ok (.l2i, 1) := by decide +kernel
theorem dX9_grams_147 : decode cX9_grams 147 = .ok (.ireturn, 1) := by decide +kernel
theorem dX9_count_0 : decode cX9_count 0 = .ok (.aload_n 0, 1) := by decide +kernel
theorem dX9_count_1 : decode cX9_count 1 = .ok (.iconst 0, 1) := by decide +kernel
theorem dX9_count_2 : decode cX9_count 2 = .ok (.putfield 1, 3) := by decide +kernel
theorem dX9_count_5 : decode cX9_count 5 = .ok (.iload_n 1, 1) := by decide +kernel
theorem dX9_count_6 : decode cX9_count 6 = .ok (.tableswitch 86 0 7 #[46, 51, 56, 61, 66, 71, 76, 81], 46) := by decide +kernel
theorem dX9_count_52 : decode cX9_count 52 = .ok (.aload_n 0, 1) := by decide +kernel
theorem dX9_count_53 : decode cX9_count 53 = .ok (.getfield 155, 3) := by decide +kernel
theorem dX9_count_56 : decode cX9_count 56 = .ok (.ireturn, 1) := by decide +kernel
theorem dX9_count_57 : decode cX9_count 57 = .ok (.aload_n 0, 1) := by decide +kernel
theorem dX9_count_58 : decode cX9_count 58 = .ok (.getfield 174, 3) := by decide +kernel
theorem dX9_count_61 : decode cX9_count 61 = .ok (.ireturn, 1) := by decide +kernel
theorem dX9_count_62 : decode cX9_count 62 = .ok (.aload_n 0, 1) := by decide +kernel
theorem dX9_count_63 : decode cX9_count 63 = .ok (.getfield 261, 3) := by decide +kernel
theorem dX9_count_66 : decode cX9_count 66 = .ok (.ireturn, 1) := by decide +kernel
theorem dX9_count_67 : decode cX9_count 67 = .ok (.aload_n 0, 1) := by decide +kernel
theorem dX9_count_68 : decode cX9_count 68 = .ok (.getfield 258, 3) := by decide +kernel
theorem dX9_count_71 : decode cX9_count 71 = .ok (.ireturn, 1) := by decide +kernel
theorem dX9_count_72 : decode cX9_count 72 = .ok (.aload_n 0, 1) := by decide +kernel
theorem dX9_count_73 : decode cX9_count 73 = .ok (.getfield 277, 3) := by decide +kernel
theorem dX9_count_76 : decode cX9_count 76 = .ok (.ireturn, 1) := by decide +kernel
theorem dX9_count_77 : decode cX9_count 77 = .ok (.aload_n 0, 1) := by decide +kernel
theorem dX9_count_78 : decode cX9_count 78 = .ok (.getfield 248, 3) := by decide +kernel
theorem dX9_count_81 : decode cX9_count 81 = .ok (.ireturn, 1) := by decide +kernel
theorem dX9_count_82 : decode cX9_count 82 = .ok (.aload_n 0, 1) := by decide +kernel
theorem dX9_count_83 : decode cX9_count 83 = .ok (.getfield 241, 3) := by decide +kernel
theorem dX9_count_86 : decode cX9_count 86 = .ok (.ireturn, 1) := by decide +kernel
theorem dX9_count_87 : decode cX9_count 87 = .ok (.aload_n 0, 1) := by decide +kernel
theorem dX9_count_88 : decode cX9_count 88 = .ok (.getfield 162, 3) := by decide +kernel
theorem dX9_count_91 : decode cX9_count 91 = .ok (.ireturn, 1) := by decide +kernel
theorem dX9_count_92 : decode cX9_count 92 = .ok (.iconst (-1), 1) := by decide +kernel
theorem dX9_count_93 : decode cX9_count 93 = .ok (.ireturn, 1) := by decide +kernel
theorem dX9_till_0 : decode cX9_till 0 = .ok (.aload_n 0, 1) := by decide +kernel
theorem dX9_till_1 : decode cX9_till 1 = .ok (.iconst 0, 1) := by decide +kernel
theorem dX9_till_2 : decode cX9_till 2 = .ok (.putfield 1, 3) := by decide +kernel
theorem dX9_till_5 : decode cX9_till 5 = .ok (.aload_n 0, 1) := by decide +kernel
theorem dX9_till_6 : decode cX9_till 6 = .ok (.getfield 301, 3) := by decide +kernel
theorem dX9_till_9 : decode cX9_till 9 = .ok (.lreturn, 1) := by decide +kernel
theorem dJ9_max_7cf53_0 : decode cJ9_max_7cf53 0 = .ok (.iload_n 0, 1) := by decide +kernel
theorem dJ9_max_7cf53_1 : decode cJ9_max_7cf53 1 = .ok (.iload_n 1, 1) := by decide +kernel
theorem dJ9_max_7cf53_2 : decode cJ9_max_7cf53 2 = .ok (.if_icmp .lt 7, 3) := by decide +kernel
theorem dJ9_max_7cf53_5 : decode cJ9_max_7cf53 5 = .ok (.iload_n 0, 1) := by decide +kernel
theorem dJ9_max_7cf53_6 : decode cJ9_max_7cf53 6 = .ok (.goto 4, 3) := by decide +kernel
theorem dJ9_max_7cf53_9 : decode cJ9_max_7cf53 9 = .ok (.iload_n 1, 1) := by decide +kernel
theorem dJ9_max_7cf53_10 : decode cJ9_max_7cf53 10 = .ok (.ireturn, 1) := by decide +kernel
theorem dJ9_min_7cf53_0 : decode cJ9_min_7cf53 0 = .ok (.iload_n 0, 1) := by decide +kernel
theorem dJ9_min_7cf53_1 : decode cJ9_min_7cf53 1 = .ok (.iload_n 1, 1) := by decide +kernel
theorem dJ9_min_7cf53_2 : decode cJ9_min_7cf53 2 = .ok (.if_icmp .gt 7, 3) := by decide +kernel
theorem dJ9_min_7cf53_5 : decode cJ9_min_7cf53 5 = .ok (.iload_n 0, 1) := by decide +kernel
theorem dJ9_min_7cf53_6 : decode cJ9_min_7cf53 6 = .ok (.goto 4, 3) := by decide +kernel
theorem dJ9_min_7cf53_9 : decode cJ9_min_7cf53 9 = .ok (.iload_n 1, 1) := by decide +kernel
theorem dJ9_min_7cf53_10 : decode cJ9_min_7cf53 10 = .ok (.ireturn, 1) := by decide +kernel
theorem dJ7_fill_53178_0 : decode cJ7_fill_53178 0 = .ok (.iconst 0, 1) := by decide +kernel
theorem dJ7_fill_53178_1 : decode cJ7_fill_53178 1 = .ok (.istore_n 2, 1) := by decide +kernel
theorem dJ7_fill_53178_2 : decode cJ7_fill_53178 2 = .ok (.aload_n 0, 1) := by decide +kernel
theorem dJ7_fill_53178_3 : decode cJ7_fill_53178 3 = .ok (.arraylength, 1) := by decide +kernel
theorem dJ7_fill_53178_4 : decode cJ7_fill_53178 4 = .ok (.istore_n 3, 1) := by decide +kernel
theorem dJ7_fill_53178_5 : decode cJ7_fill_53178 5 = .ok (.iload_n 2, 1) := by decide +kernel
theorem dJ7_fill_53178_6 : decode cJ7_fill_53178 6 = .ok (.iload_n 3, 1) := by decide +kernel
theorem dJ7_fill_53178_7 : decode cJ7_fill_53178 7 = .ok (.if_icmp .ge 13, 3) := by decide +kernel
theorem dJ7_fill_53178_10 : decode cJ7_fill_53178 10 = .ok (.aload_n 0, 1) := by decide +kernel
theorem dJ7_fill_53178_11 : decode cJ7_fill_53178 11 = .ok (.iload_n 2, 1) := by decide +kernel
theorem dJ7_fill_53178_12 : decode cJ7_fill_53178 12 = .ok (.iload_n 1, 1) := by decide +kernel
theorem dJ7_fill_53178_13 : decode cJ7_fill_53178 13 = .ok (.iastore, 1) := by decide +kernel
theorem dJ7_fill_53178_14 : decode cJ7_fill_53178 14 = .ok (.iinc 2 1, 3) := by decide +kernel
theorem dJ7_fill_53178_17 : decode cJ7_fill_53178 17 = .ok (.goto (-12), 3) := by decide +kernel
theorem dJ7_fill_53178_20 : decode cJ7_fill_53178 20 = .ok (.return_, 1) := by decide +kernel
theorem dL_sheet_0 : decode cL_sheet 0 = .ok (.aload_n 2, 1) := by decide +kernel
theorem dL_sheet_1 : decode cL_sheet 1 = .ok (.iconst 0, 1) := by decide +kernel
theorem dL_sheet_2 : decode cL_sheet 2 = .ok (.aload_n 0, 1) := by decide +kernel
theorem dL_sheet_3 : decode cL_sheet 3 = .ok (.iload_n 1, 1) := by decide +kernel
theorem dL_sheet_4 : decode cL_sheet 4 = .ok (.invokevirtual 7, 3) := by decide +kernel
theorem dL_sheet_7 : decode cL_sheet 7 = .ok (.i2l, 1) := by decide +kernel
theorem dL_sheet_8 : decode cL_sheet 8 = .ok (.lastore, 1) := by decide +kernel
theorem dL_sheet_9 : decode cL_sheet 9 = .ok (.goto 9, 3) := by decide +kernel
theorem dL_sheet_12 : decode cL_sheet 12 = .ok (.astore_n 3, 1) := by decide +kernel
theorem dL_sheet_13 : decode cL_sheet 13 = .ok (.iconst 1, 1) := by decide +kernel
theorem dL_sheet_14 : decode cL_sheet 14 = .ok (.ireturn, 1) := by decide +kernel
theorem dL_sheet_15 : decode cL_sheet 15 = .ok (.astore_n 3, 1) := by decide +kernel
theorem dL_sheet_16 : decode cL_sheet 16 = .ok (.iconst 2, 1) := by decide +kernel
theorem dL_sheet_17 : decode cL_sheet 17 = .ok (.ireturn, 1) := by decide +kernel
theorem dL_sheet_18 : decode cL_sheet 18 = .ok (.iconst 0, 1) := by decide +kernel
theorem dL_sheet_19 : decode cL_sheet 19 = .ok (.ireturn, 1) := by decide +kernel
theorem dL_row_0 : decode cL_row 0 = .ok (.aload 4, 2) := by decide +kernel
theorem dL_row_2 : decode cL_row 2 = .ok (.iconst 0, 1) := by decide +kernel
theorem dL_row_3 : decode cL_row 3 = .ok (.aload_n 0, 1) := by decide +kernel
theorem dL_row_4 : decode cL_row 4 = .ok (.iload_n 1, 1) := by decide +kernel
theorem dL_row_5 : decode cL_row 5 = .ok (.iload_n 2, 1) := by decide +kernel
theorem dL_row_6 : decode cL_row 6 = .ok (.iload_n 3, 1) := by decide +kernel
theorem dL_row_7 : decode cL_row 7 = .ok (.invokevirtual 17, 3) := by decide +kernel
theorem dL_row_10 : decode cL_row 10 = .ok (.i2l, 1) := by decide +kernel
theorem dL_row_11 : decode cL_row 11 = .ok (.lastore, 1) := by decide +kernel
theorem dL_row_12 : decode cL_row 12 = .ok (.goto 7, 3) := by decide +kernel
theorem dL_row_15 : decode cL_row 15 = .ok (.astore 5, 2) := by decide +kernel
theorem dL_row_17 : decode cL_row 17 = .ok (.iconst 1, 1) := by decide +kernel
theorem dL_row_18 : decode cL_row 18 = .ok (.ireturn, 1) := by decide +kernel
theorem dL_row_19 : decode cL_row 19 = .ok (.iconst 0, 1) := by decide +kernel
theorem dL_row_20 : decode cL_row 20 = .ok (.ireturn, 1) := by decide +kernel
theorem dL_put_0 : decode cL_put 0 = .ok (.aload 6, 2) := by decide +kernel
theorem dL_put_2 : decode cL_put 2 = .ok (.iconst 0, 1) := by decide +kernel
theorem dL_put_3 : decode cL_put 3 = .ok (.aload_n 0, 1) := by decide +kernel
theorem dL_put_4 : decode cL_put 4 = .ok (.iload_n 1, 1) := by decide +kernel
theorem dL_put_5 : decode cL_put 5 = .ok (.iload_n 2, 1) := by decide +kernel
theorem dL_put_6 : decode cL_put 6 = .ok (.iload_n 3, 1) := by decide +kernel
theorem dL_put_7 : decode cL_put 7 = .ok (.lload 4, 2) := by decide +kernel
theorem dL_put_9 : decode cL_put 9 = .ok (.invokevirtual 23, 3) := by decide +kernel
theorem dL_put_12 : decode cL_put 12 = .ok (.i2l, 1) := by decide +kernel
theorem dL_put_13 : decode cL_put 13 = .ok (.lastore, 1) := by decide +kernel
theorem dL_put_14 : decode cL_put 14 = .ok (.goto 7, 3) := by decide +kernel
theorem dL_put_17 : decode cL_put 17 = .ok (.astore 7, 2) := by decide +kernel
theorem dL_put_19 : decode cL_put 19 = .ok (.iconst 1, 1) := by decide +kernel
theorem dL_put_20 : decode cL_put 20 = .ok (.ireturn, 1) := by decide +kernel
theorem dL_put_21 : decode cL_put 21 = .ok (.iconst 0, 1) := by decide +kernel
theorem dL_put_22 : decode cL_put 22 = .ok (.ireturn, 1) := by decide +kernel
theorem dL_tear_0 : decode cL_tear 0 = .ok (.aload_n 3, 1) := by decide +kernel
theorem dL_tear_1 : decode cL_tear 1 = .ok (.iconst 0, 1) := by decide +kernel
theorem dL_tear_2 : decode cL_tear 2 = .ok (.aload_n 0, 1) := by decide +kernel
theorem dL_tear_3 : decode cL_tear 3 = .ok (.iload_n 1, 1) := by decide +kernel
theorem dL_tear_4 : decode cL_tear 4 = .ok (.iload_n 2, 1) := by decide +kernel
theorem dL_tear_5 : decode cL_tear 5 = .ok (.invokevirtual 27, 3) := by decide +kernel
theorem dL_tear_8 : decode cL_tear 8 = .ok (.i2l, 1) := by decide +kernel
theorem dL_tear_9 : decode cL_tear 9 = .ok (.lastore, 1) := by decide +kernel
theorem dL_tear_10 : decode cL_tear 10 = .ok (.goto 7, 3) := by decide +kernel
theorem dL_tear_13 : decode cL_tear 13 = .ok (.astore 4, 2) := by decide +kernel
theorem dL_tear_15 : decode cL_tear 15 = .ok (.iconst 1, 1) := by decide +kernel
theorem dL_tear_16 : decode cL_tear 16 = .ok (.ireturn, 1) := by decide +kernel
theorem dL_tear_17 : decode cL_tear 17 = .ok (.iconst 0, 1) := by decide +kernel
theorem dL_tear_18 : decode cL_tear 18 = .ok (.ireturn, 1) := by decide +kernel
theorem dL_fit_0 : decode cL_fit 0 = .ok (.aload_n 2, 1) := by decide +kernel
theorem dL_fit_1 : decode cL_fit 1 = .ok (.iconst 0, 1) := by decide +kernel
theorem dL_fit_2 : decode cL_fit 2 = .ok (.aload_n 0, 1) := by decide +kernel
theorem dL_fit_3 : decode cL_fit 3 = .ok (.iload_n 1, 1) := by decide +kernel
theorem dL_fit_4 : decode cL_fit 4 = .ok (.invokevirtual 31, 3) := by decide +kernel
theorem dL_fit_7 : decode cL_fit 7 = .ok (.i2l, 1) := by decide +kernel
theorem dL_fit_8 : decode cL_fit 8 = .ok (.lastore, 1) := by decide +kernel
theorem dL_fit_9 : decode cL_fit 9 = .ok (.goto 6, 3) := by decide +kernel
theorem dL_fit_12 : decode cL_fit 12 = .ok (.astore_n 3, 1) := by decide +kernel
theorem dL_fit_13 : decode cL_fit 13 = .ok (.iconst 1, 1) := by decide +kernel
theorem dL_fit_14 : decode cL_fit 14 = .ok (.ireturn, 1) := by decide +kernel
theorem dL_fit_15 : decode cL_fit 15 = .ok (.iconst 0, 1) := by decide +kernel
theorem dL_fit_16 : decode cL_fit 16 = .ok (.ireturn, 1) := by decide +kernel
theorem dL_says_0 : decode cL_says 0 = .ok (.aload 5, 2) := by decide +kernel
theorem dL_says_2 : decode cL_says 2 = .ok (.iconst 0, 1) := by decide +kernel
theorem dL_says_3 : decode cL_says 3 = .ok (.aload_n 0, 1) := by decide +kernel
theorem dL_says_4 : decode cL_says 4 = .ok (.iload_n 1, 1) := by decide +kernel
theorem dL_says_5 : decode cL_says 5 = .ok (.iload_n 2, 1) := by decide +kernel
theorem dL_says_6 : decode cL_says 6 = .ok (.iload_n 3, 1) := by decide +kernel
theorem dL_says_7 : decode cL_says 7 = .ok (.iload 4, 2) := by decide +kernel
theorem dL_says_9 : decode cL_says 9 = .ok (.invokevirtual 34, 3) := by decide +kernel
theorem dL_says_12 : decode cL_says 12 = .ok (.ifCond .eq 7, 3) := by decide +kernel
theorem dL_says_15 : decode cL_says 15 = .ok (.lconst 1, 1) := by decide +kernel
theorem dL_says_16 : decode cL_says 16 = .ok (.goto 4, 3) := by decide +kernel
theorem dL_says_19 : decode cL_says 19 = .ok (.lconst 0, 1) := by decide +kernel
theorem dL_says_20 : decode cL_says 20 = .ok (.lastore, 1) := by decide +kernel
theorem dL_says_21 : decode cL_says 21 = .ok (.goto 7, 3) := by decide +kernel
theorem dL_says_24 : decode cL_says 24 = .ok (.astore 6, 2) := by decide +kernel
theorem dL_says_26 : decode cL_says 26 = .ok (.iconst 1, 1) := by decide +kernel
theorem dL_says_27 : decode cL_says 27 = .ok (.ireturn, 1) := by decide +kernel
theorem dL_says_28 : decode cL_says 28 = .ok (.iconst 0, 1) := by decide +kernel
theorem dL_says_29 : decode cL_says 29 = .ok (.ireturn, 1) := by decide +kernel
theorem dL_part_0 : decode cL_part 0 = .ok (.aload 4, 2) := by decide +kernel
theorem dL_part_2 : decode cL_part 2 = .ok (.iconst 0, 1) := by decide +kernel
theorem dL_part_3 : decode cL_part 3 = .ok (.aload_n 0, 1) := by decide +kernel
theorem dL_part_4 : decode cL_part 4 = .ok (.iload_n 1, 1) := by decide +kernel
theorem dL_part_5 : decode cL_part 5 = .ok (.iload_n 2, 1) := by decide +kernel
theorem dL_part_6 : decode cL_part 6 = .ok (.iload_n 3, 1) := by decide +kernel
theorem dL_part_7 : decode cL_part 7 = .ok (.invokevirtual 38, 3) := by decide +kernel
theorem dL_part_10 : decode cL_part 10 = .ok (.i2l, 1) := by decide +kernel
theorem dL_part_11 : decode cL_part 11 = .ok (.lastore, 1) := by decide +kernel
theorem dL_part_12 : decode cL_part 12 = .ok (.goto 11, 3) := by decide +kernel
theorem dL_part_15 : decode cL_part 15 = .ok (.astore 5, 2) := by decide +kernel
theorem dL_part_17 : decode cL_part 17 = .ok (.iconst 1, 1) := by decide +kernel
theorem dL_part_18 : decode cL_part 18 = .ok (.ireturn, 1) := by decide +kernel
theorem dL_part_19 : decode cL_part 19 = .ok (.astore 5, 2) := by decide +kernel
theorem dL_part_21 : decode cL_part 21 = .ok (.iconst 2, 1) := by decide +kernel
theorem dL_part_22 : decode cL_part 22 = .ok (.ireturn, 1) := by decide +kernel
theorem dL_part_23 : decode cL_part 23 = .ok (.iconst 0, 1) := by decide +kernel
theorem dL_part_24 : decode cL_part 24 = .ok (.ireturn, 1) := by decide +kernel
theorem dL_told_0 : decode cL_told 0 = .ok (.aload 4, 2) := by decide +kernel
theorem dL_told_2 : decode cL_told 2 = .ok (.iconst 0, 1) := by decide +kernel
theorem dL_told_3 : decode cL_told 3 = .ok (.aload_n 0, 1) := by decide +kernel
theorem dL_told_4 : decode cL_told 4 = .ok (.iload_n 1, 1) := by decide +kernel
theorem dL_told_5 : decode cL_told 5 = .ok (.iload_n 2, 1) := by decide +kernel
theorem dL_told_6 : decode cL_told 6 = .ok (.iload_n 3, 1) := by decide +kernel
theorem dL_told_7 : decode cL_told 7 = .ok (.invokevirtual 41, 3) := by decide +kernel
theorem dL_told_10 : decode cL_told 10 = .ok (.i2l, 1) := by decide +kernel
theorem dL_told_11 : decode cL_told 11 = .ok (.lastore, 1) := by decide +kernel
theorem dL_told_12 : decode cL_told 12 = .ok (.goto 11, 3) := by decide +kernel
theorem dL_told_15 : decode cL_told 15 = .ok (.astore 5, 2) := by decide +kernel
theorem dL_told_17 : decode cL_told 17 = .ok (.iconst 1, 1) := by decide +kernel
theorem dL_told_18 : decode cL_told 18 = .ok (.ireturn, 1) := by decide +kernel
theorem dL_told_19 : decode cL_told 19 = .ok (.astore 5, 2) := by decide +kernel
theorem dL_told_21 : decode cL_told 21 = .ok (.iconst 2, 1) := by decide +kernel
theorem dL_told_22 : decode cL_told 22 = .ok (.ireturn, 1) := by decide +kernel
theorem dL_told_23 : decode cL_told 23 = .ok (.iconst 0, 1) := by decide +kernel
theorem dL_told_24 : decode cL_told 24 = .ok (.ireturn, 1) := by decide +kernel
theorem dL_car_0 : decode cL_car 0 = .ok (.aload 5, 2) := by decide +kernel
theorem dL_car_2 : decode cL_car 2 = .ok (.iconst 0, 1) := by decide +kernel
theorem dL_car_3 : decode cL_car 3 = .ok (.aload_n 0, 1) := by decide +kernel
theorem dL_car_4 : decode cL_car 4 = .ok (.iload_n 1, 1) := by decide +kernel
theorem dL_car_5 : decode cL_car 5 = .ok (.iload_n 2, 1) := by decide +kernel
theorem dL_car_6 : decode cL_car 6 = .ok (.iload_n 3, 1) := by decide +kernel
theorem dL_car_7 : decode cL_car 7 = .ok (.iload 4, 2) := by decide +kernel
theorem dL_car_9 : decode cL_car 9 = .ok (.invokevirtual 46, 3) := by decide +kernel
theorem dL_car_12 : decode cL_car 12 = .ok (.i2l, 1) := by decide +kernel
theorem dL_car_13 : decode cL_car 13 = .ok (.lastore, 1) := by decide +kernel
theorem dL_car_14 : decode cL_car 14 = .ok (.goto 7, 3) := by decide +kernel
theorem dL_car_17 : decode cL_car 17 = .ok (.astore 6, 2) := by decide +kernel
theorem dL_car_19 : decode cL_car 19 = .ok (.iconst 1, 1) := by decide +kernel
theorem dL_car_20 : decode cL_car 20 = .ok (.ireturn, 1) := by decide +kernel
theorem dL_car_21 : decode cL_car 21 = .ok (.iconst 0, 1) := by decide +kernel
theorem dL_car_22 : decode cL_car 22 = .ok (.ireturn, 1) := by decide +kernel
theorem dL_about_0 : decode cL_about 0 = .ok (.aload_n 3, 1) := by decide +kernel
theorem dL_about_1 : decode cL_about 1 = .ok (.iconst 0, 1) := by decide +kernel
theorem dL_about_2 : decode cL_about 2 = .ok (.aload_n 0, 1) := by decide +kernel
theorem dL_about_3 : decode cL_about 3 = .ok (.iload_n 1, 1) := by decide +kernel
theorem dL_about_4 : decode cL_about 4 = .ok (.iload_n 2, 1) := by decide +kernel
theorem dL_about_5 : decode cL_about 5 = .ok (.invokevirtual 50, 3) := by decide +kernel
theorem dL_about_8 : decode cL_about 8 = .ok (.i2l, 1) := by decide +kernel
theorem dL_about_9 : decode cL_about 9 = .ok (.lastore, 1) := by decide +kernel
theorem dL_about_10 : decode cL_about 10 = .ok (.goto 11, 3) := by decide +kernel
theorem dL_about_13 : decode cL_about 13 = .ok (.astore 4, 2) := by decide +kernel
theorem dL_about_15 : decode cL_about 15 = .ok (.iconst 1, 1) := by decide +kernel
theorem dL_about_16 : decode cL_about 16 = .ok (.ireturn, 1) := by decide +kernel
theorem dL_about_17 : decode cL_about 17 = .ok (.astore 4, 2) := by decide +kernel
theorem dL_about_19 : decode cL_about 19 = .ok (.iconst 2, 1) := by decide +kernel
theorem dL_about_20 : decode cL_about 20 = .ok (.ireturn, 1) := by decide +kernel
theorem dL_about_21 : decode cL_about 21 = .ok (.iconst 0, 1) := by decide +kernel
theorem dL_about_22 : decode cL_about 22 = .ok (.ireturn, 1) := by decide +kernel
theorem dL_drain_0 : decode cL_drain 0 = .ok (.aload_n 2, 1) := by decide +kernel
theorem dL_drain_1 : decode cL_drain 1 = .ok (.iconst 0, 1) := by decide +kernel
theorem dL_drain_2 : decode cL_drain 2 = .ok (.aload_n 0, 1) := by decide +kernel
theorem dL_drain_3 : decode cL_drain 3 = .ok (.iload_n 1, 1) := by decide +kernel
theorem dL_drain_4 : decode cL_drain 4 = .ok (.invokevirtual 53, 3) := by decide +kernel
theorem dL_drain_7 : decode cL_drain 7 = .ok (.i2l, 1) := by decide +kernel
theorem dL_drain_8 : decode cL_drain 8 = .ok (.lastore, 1) := by decide +kernel
theorem dL_drain_9 : decode cL_drain 9 = .ok (.goto 6, 3) := by decide +kernel
theorem dL_drain_12 : decode cL_drain 12 = .ok (.astore_n 3, 1) := by decide +kernel
theorem dL_drain_13 : decode cL_drain 13 = .ok (.iconst 1, 1) := by decide +kernel
theorem dL_drain_14 : decode cL_drain 14 = .ok (.ireturn, 1) := by decide +kernel
theorem dL_drain_15 : decode cL_drain 15 = .ok (.iconst 0, 1) := by decide +kernel
theorem dL_drain_16 : decode cL_drain 16 = .ok (.ireturn, 1) := by decide +kernel
theorem dL_papers_0 : decode cL_papers 0 = .ok (.aload_n 2, 1) := by decide +kernel
theorem dL_papers_1 : decode cL_papers 1 = .ok (.iconst 0, 1) := by decide +kernel
theorem dL_papers_2 : decode cL_papers 2 = .ok (.aload_n 0, 1) := by decide +kernel
theorem dL_papers_3 : decode cL_papers 3 = .ok (.iload_n 1, 1) := by decide +kernel
theorem dL_papers_4 : decode cL_papers 4 = .ok (.invokevirtual 56, 3) := by decide +kernel
theorem dL_papers_7 : decode cL_papers 7 = .ok (.i2l, 1) := by decide +kernel
theorem dL_papers_8 : decode cL_papers 8 = .ok (.lastore, 1) := by decide +kernel
theorem dL_papers_9 : decode cL_papers 9 = .ok (.goto 6, 3) := by decide +kernel
theorem dL_papers_12 : decode cL_papers 12 = .ok (.astore_n 3, 1) := by decide +kernel
theorem dL_papers_13 : decode cL_papers 13 = .ok (.iconst 1, 1) := by decide +kernel
theorem dL_papers_14 : decode cL_papers 14 = .ok (.ireturn, 1) := by decide +kernel
theorem dL_papers_15 : decode cL_papers 15 = .ok (.iconst 0, 1) := by decide +kernel
theorem dL_papers_16 : decode cL_papers 16 = .ok (.ireturn, 1) := by decide +kernel
theorem dL_hinders_0 : decode cL_hinders 0 = .ok (.aload_n 3, 1) := by decide +kernel
theorem dL_hinders_1 : decode cL_hinders 1 = .ok (.iconst 0, 1) := by decide +kernel
theorem dL_hinders_2 : decode cL_hinders 2 = .ok (.aload_n 0, 1) := by decide +kernel
theorem dL_hinders_3 : decode cL_hinders 3 = .ok (.iload_n 1, 1) := by decide +kernel
theorem dL_hinders_4 : decode cL_hinders 4 = .ok (.iload_n 2, 1) := by decide +kernel
theorem dL_hinders_5 : decode cL_hinders 5 = .ok (.invokevirtual 59, 3) := by decide +kernel
theorem dL_hinders_8 : decode cL_hinders 8 = .ok (.i2l, 1) := by decide +kernel
theorem dL_hinders_9 : decode cL_hinders 9 = .ok (.lastore, 1) := by decide +kernel
theorem dL_hinders_10 : decode cL_hinders 10 = .ok (.goto 7, 3) := by decide +kernel
theorem dL_hinders_13 : decode cL_hinders 13 = .ok (.astore 4, 2) := by decide +kernel
theorem dL_hinders_15 : decode cL_hinders 15 = .ok (.iconst 1, 1) := by decide +kernel
theorem dL_hinders_16 : decode cL_hinders 16 = .ok (.ireturn, 1) := by decide +kernel
theorem dL_hinders_17 : decode cL_hinders 17 = .ok (.iconst 0, 1) := by decide +kernel
theorem dL_hinders_18 : decode cL_hinders 18 = .ok (.ireturn, 1) := by decide +kernel
theorem dL_take_0 : decode cL_take 0 = .ok (.aload_n 3, 1) := by decide +kernel
theorem dL_take_1 : decode cL_take 1 = .ok (.iconst 0, 1) := by decide +kernel
theorem dL_take_2 : decode cL_take 2 = .ok (.aload_n 0, 1) := by decide +kernel
theorem dL_take_3 : decode cL_take 3 = .ok (.iload_n 1, 1) := by decide +kernel
theorem dL_take_4 : decode cL_take 4 = .ok (.iload_n 2, 1) := by decide +kernel
theorem dL_take_5 : decode cL_take 5 = .ok (.invokevirtual 62, 3) := by decide +kernel
theorem dL_take_8 : decode cL_take 8 = .ok (.i2l, 1) := by decide +kernel
theorem dL_take_9 : decode cL_take 9 = .ok (.lastore, 1) := by decide +kernel
theorem dL_take_10 : decode cL_take 10 = .ok (.goto 7, 3) := by decide +kernel
theorem dL_take_13 : decode cL_take 13 = .ok (.astore 4, 2) := by decide +kernel
theorem dL_take_15 : decode cL_take 15 = .ok (.iconst 1, 1) := by decide +kernel
theorem dL_take_16 : decode cL_take 16 = .ok (.ireturn, 1) := by decide +kernel
theorem dL_take_17 : decode cL_take 17 = .ok (.iconst 0, 1) := by decide +kernel
theorem dL_take_18 : decode cL_take 18 = .ok (.ireturn, 1) := by decide +kernel
theorem dL_press_0 : decode cL_press 0 = .ok (.aload_n 2, 1) := by decide +kernel
theorem dL_press_1 : decode cL_press 1 = .ok (.iconst 0, 1) := by decide +kernel
theorem dL_press_2 : decode cL_press 2 = .ok (.aload_n 0, 1) := by decide +kernel
theorem dL_press_3 : decode cL_press 3 = .ok (.iload_n 1, 1) := by decide +kernel
theorem dL_press_4 : decode cL_press 4 = .ok (.invokevirtual 65, 3) := by decide +kernel
theorem dL_press_7 : decode cL_press 7 = .ok (.i2l, 1) := by decide +kernel
theorem dL_press_8 : decode cL_press 8 = .ok (.lastore, 1) := by decide +kernel
theorem dL_press_9 : decode cL_press 9 = .ok (.goto 6, 3) := by decide +kernel
theorem dL_press_12 : decode cL_press 12 = .ok (.astore_n 3, 1) := by decide +kernel
theorem dL_press_13 : decode cL_press 13 = .ok (.iconst 1, 1) := by decide +kernel
theorem dL_press_14 : decode cL_press 14 = .ok (.ireturn, 1) := by decide +kernel
theorem dL_press_15 : decode cL_press 15 = .ok (.iconst 0, 1) := by decide +kernel
theorem dL_press_16 : decode cL_press 16 = .ok (.ireturn, 1) := by decide +kernel
theorem dL_day_0 : decode cL_day 0 = .ok (.aload_n 2, 1) := by decide +kernel
theorem dL_day_1 : decode cL_day 1 = .ok (.iconst 0, 1) := by decide +kernel
theorem dL_day_2 : decode cL_day 2 = .ok (.aload_n 0, 1) := by decide +kernel
theorem dL_day_3 : decode cL_day 3 = .ok (.iload_n 1, 1) := by decide +kernel
theorem dL_day_4 : decode cL_day 4 = .ok (.invokevirtual 68, 3) := by decide +kernel
theorem dL_day_7 : decode cL_day 7 = .ok (.i2l, 1) := by decide +kernel
theorem dL_day_8 : decode cL_day 8 = .ok (.lastore, 1) := by decide +kernel
theorem dL_day_9 : decode cL_day 9 = .ok (.goto 9, 3) := by decide +kernel
theorem dL_day_12 : decode cL_day 12 = .ok (.astore_n 3, 1) := by decide +kernel
theorem dL_day_13 : decode cL_day 13 = .ok (.iconst 1, 1) := by decide +kernel
theorem dL_day_14 : decode cL_day 14 = .ok (.ireturn, 1) := by decide +kernel
theorem dL_day_15 : decode cL_day 15 = .ok (.astore_n 3, 1) := by decide +kernel
theorem dL_day_16 : decode cL_day 16 = .ok (.iconst 2, 1) := by decide +kernel
theorem dL_day_17 : decode cL_day 17 = .ok (.ireturn, 1) := by decide +kernel
theorem dL_day_18 : decode cL_day 18 = .ok (.iconst 0, 1) := by decide +kernel
theorem dL_day_19 : decode cL_day 19 = .ok (.ireturn, 1) := by decide +kernel
theorem dL_late_0 : decode cL_late 0 = .ok (.aload_n 3, 1) := by decide +kernel
theorem dL_late_1 : decode cL_late 1 = .ok (.iconst 0, 1) := by decide +kernel
theorem dL_late_2 : decode cL_late 2 = .ok (.aload_n 0, 1) := by decide +kernel
theorem dL_late_3 : decode cL_late 3 = .ok (.iload_n 1, 1) := by decide +kernel
theorem dL_late_4 : decode cL_late 4 = .ok (.iload_n 2, 1) := by decide +kernel
theorem dL_late_5 : decode cL_late 5 = .ok (.invokevirtual 71, 3) := by decide +kernel
theorem dL_late_8 : decode cL_late 8 = .ok (.i2l, 1) := by decide +kernel
theorem dL_late_9 : decode cL_late 9 = .ok (.lastore, 1) := by decide +kernel
theorem dL_late_10 : decode cL_late 10 = .ok (.goto 7, 3) := by decide +kernel
theorem dL_late_13 : decode cL_late 13 = .ok (.astore 4, 2) := by decide +kernel
theorem dL_late_15 : decode cL_late 15 = .ok (.iconst 1, 1) := by decide +kernel
theorem dL_late_16 : decode cL_late 16 = .ok (.ireturn, 1) := by decide +kernel
theorem dL_late_17 : decode cL_late 17 = .ok (.iconst 0, 1) := by decide +kernel
theorem dL_late_18 : decode cL_late 18 = .ok (.ireturn, 1) := by decide +kernel
theorem dL_item_0 : decode cL_item 0 = .ok (.aload_n 3, 1) := by decide +kernel
theorem dL_item_1 : decode cL_item 1 = .ok (.iconst 0, 1) := by decide +kernel
theorem dL_item_2 : decode cL_item 2 = .ok (.aload_n 0, 1) := by decide +kernel
theorem dL_item_3 : decode cL_item 3 = .ok (.iload_n 1, 1) := by decide +kernel
theorem dL_item_4 : decode cL_item 4 = .ok (.iload_n 2, 1) := by decide +kernel
theorem dL_item_5 : decode cL_item 5 = .ok (.invokevirtual 74, 3) := by decide +kernel
theorem dL_item_8 : decode cL_item 8 = .ok (.i2l, 1) := by decide +kernel
theorem dL_item_9 : decode cL_item 9 = .ok (.lastore, 1) := by decide +kernel
theorem dL_item_10 : decode cL_item 10 = .ok (.goto 11, 3) := by decide +kernel
theorem dL_item_13 : decode cL_item 13 = .ok (.astore 4, 2) := by decide +kernel
theorem dL_item_15 : decode cL_item 15 = .ok (.iconst 1, 1) := by decide +kernel
theorem dL_item_16 : decode cL_item 16 = .ok (.ireturn, 1) := by decide +kernel
theorem dL_item_17 : decode cL_item 17 = .ok (.astore 4, 2) := by decide +kernel
theorem dL_item_19 : decode cL_item 19 = .ok (.iconst 2, 1) := by decide +kernel
theorem dL_item_20 : decode cL_item 20 = .ok (.ireturn, 1) := by decide +kernel
theorem dL_item_21 : decode cL_item 21 = .ok (.iconst 0, 1) := by decide +kernel
theorem dL_item_22 : decode cL_item 22 = .ok (.ireturn, 1) := by decide +kernel
theorem dL_find_0 : decode cL_find 0 = .ok (.aload 5, 2) := by decide +kernel
theorem dL_find_2 : decode cL_find 2 = .ok (.iconst 0, 1) := by decide +kernel
theorem dL_find_3 : decode cL_find 3 = .ok (.aload_n 0, 1) := by decide +kernel
theorem dL_find_4 : decode cL_find 4 = .ok (.iload_n 1, 1) := by decide +kernel
theorem dL_find_5 : decode cL_find 5 = .ok (.iload_n 2, 1) := by decide +kernel
theorem dL_find_6 : decode cL_find 6 = .ok (.iload_n 3, 1) := by decide +kernel
theorem dL_find_7 : decode cL_find 7 = .ok (.iload 4, 2) := by decide +kernel
theorem dL_find_9 : decode cL_find 9 = .ok (.invokevirtual 77, 3) := by decide +kernel
theorem dL_find_12 : decode cL_find 12 = .ok (.i2l, 1) := by decide +kernel
theorem dL_find_13 : decode cL_find 13 = .ok (.lastore, 1) := by decide +kernel
theorem dL_find_14 : decode cL_find 14 = .ok (.goto 7, 3) := by decide +kernel
theorem dL_find_17 : decode cL_find 17 = .ok (.astore 6, 2) := by decide +kernel
theorem dL_find_19 : decode cL_find 19 = .ok (.iconst 1, 1) := by decide +kernel
theorem dL_find_20 : decode cL_find 20 = .ok (.ireturn, 1) := by decide +kernel
theorem dL_find_21 : decode cL_find 21 = .ok (.iconst 0, 1) := by decide +kernel
theorem dL_find_22 : decode cL_find 22 = .ok (.ireturn, 1) := by decide +kernel
theorem dL_sell_0 : decode cL_sell 0 = .ok (.aload_n 3, 1) := by decide +kernel
theorem dL_sell_1 : decode cL_sell 1 = .ok (.iconst 0, 1) := by decide +kernel
theorem dL_sell_2 : decode cL_sell 2 = .ok (.aload_n 0, 1) := by decide +kernel
theorem dL_sell_3 : decode cL_sell 3 = .ok (.iload_n 1, 1) := by decide +kernel
theorem dL_sell_4 : decode cL_sell 4 = .ok (.iload_n 2, 1) := by decide +kernel
theorem dL_sell_5 : decode cL_sell 5 = .ok (.invokevirtual 80, 3) := by decide +kernel
theorem dL_sell_8 : decode cL_sell 8 = .ok (.i2l, 1) := by decide +kernel
theorem dL_sell_9 : decode cL_sell 9 = .ok (.lastore, 1) := by decide +kernel
theorem dL_sell_10 : decode cL_sell 10 = .ok (.goto 11, 3) := by decide +kernel
theorem dL_sell_13 : decode cL_sell 13 = .ok (.astore 4, 2) := by decide +kernel
theorem dL_sell_15 : decode cL_sell 15 = .ok (.iconst 1, 1) := by decide +kernel
theorem dL_sell_16 : decode cL_sell 16 = .ok (.ireturn, 1) := by decide +kernel
theorem dL_sell_17 : decode cL_sell 17 = .ok (.astore 4, 2) := by decide +kernel
theorem dL_sell_19 : decode cL_sell 19 = .ok (.iconst 2, 1) := by decide +kernel
theorem dL_sell_20 : decode cL_sell 20 = .ok (.ireturn, 1) := by decide +kernel
theorem dL_sell_21 : decode cL_sell 21 = .ok (.iconst 0, 1) := by decide +kernel
theorem dL_sell_22 : decode cL_sell 22 = .ok (.ireturn, 1) := by decide +kernel
theorem dL_back_0 : decode cL_back 0 = .ok (.aload_n 3, 1) := by decide +kernel
theorem dL_back_1 : decode cL_back 1 = .ok (.iconst 0, 1) := by decide +kernel
theorem dL_back_2 : decode cL_back 2 = .ok (.aload_n 0, 1) := by decide +kernel
theorem dL_back_3 : decode cL_back 3 = .ok (.iload_n 1, 1) := by decide +kernel
theorem dL_back_4 : decode cL_back 4 = .ok (.iload_n 2, 1) := by decide +kernel
theorem dL_back_5 : decode cL_back 5 = .ok (.invokevirtual 83, 3) := by decide +kernel
theorem dL_back_8 : decode cL_back 8 = .ok (.i2l, 1) := by decide +kernel
theorem dL_back_9 : decode cL_back 9 = .ok (.lastore, 1) := by decide +kernel
theorem dL_back_10 : decode cL_back 10 = .ok (.goto 11, 3) := by decide +kernel
theorem dL_back_13 : decode cL_back 13 = .ok (.astore 4, 2) := by decide +kernel
theorem dL_back_15 : decode cL_back 15 = .ok (.iconst 1, 1) := by decide +kernel
theorem dL_back_16 : decode cL_back 16 = .ok (.ireturn, 1) := by decide +kernel
theorem dL_back_17 : decode cL_back 17 = .ok (.astore 4, 2) := by decide +kernel
theorem dL_back_19 : decode cL_back 19 = .ok (.iconst 2, 1) := by decide +kernel
theorem dL_back_20 : decode cL_back 20 = .ok (.ireturn, 1) := by decide +kernel
theorem dL_back_21 : decode cL_back 21 = .ok (.iconst 0, 1) := by decide +kernel
theorem dL_back_22 : decode cL_back 22 = .ok (.ireturn, 1) := by decide +kernel
theorem dL_best_0 : decode cL_best 0 = .ok (.aload_n 3, 1) := by decide +kernel
theorem dL_best_1 : decode cL_best 1 = .ok (.iconst 0, 1) := by decide +kernel
theorem dL_best_2 : decode cL_best 2 = .ok (.aload_n 0, 1) := by decide +kernel
theorem dL_best_3 : decode cL_best 3 = .ok (.iload_n 1, 1) := by decide +kernel
theorem dL_best_4 : decode cL_best 4 = .ok (.iload_n 2, 1) := by decide +kernel
theorem dL_best_5 : decode cL_best 5 = .ok (.invokevirtual 86, 3) := by decide +kernel
theorem dL_best_8 : decode cL_best 8 = .ok (.i2l, 1) := by decide +kernel
theorem dL_best_9 : decode cL_best 9 = .ok (.lastore, 1) := by decide +kernel
theorem dL_best_10 : decode cL_best 10 = .ok (.goto 11, 3) := by decide +kernel
theorem dL_best_13 : decode cL_best 13 = .ok (.astore 4, 2) := by decide +kernel
theorem dL_best_15 : decode cL_best 15 = .ok (.iconst 1, 1) := by decide +kernel
theorem dL_best_16 : decode cL_best 16 = .ok (.ireturn, 1) := by decide +kernel
theorem dL_best_17 : decode cL_best 17 = .ok (.astore 4, 2) := by decide +kernel
theorem dL_best_19 : decode cL_best 19 = .ok (.iconst 2, 1) := by decide +kernel
theorem dL_best_20 : decode cL_best 20 = .ok (.ireturn, 1) := by decide +kernel
theorem dL_best_21 : decode cL_best 21 = .ok (.iconst 0, 1) := by decide +kernel
theorem dL_best_22 : decode cL_best 22 = .ok (.ireturn, 1) := by decide +kernel
theorem dL_worth_0 : decode cL_worth 0 = .ok (.aload_n 3, 1) := by decide +kernel
theorem dL_worth_1 : decode cL_worth 1 = .ok (.iconst 0, 1) := by decide +kernel
theorem dL_worth_2 : decode cL_worth 2 = .ok (.aload_n 0, 1) := by decide +kernel
theorem dL_worth_3 : decode cL_worth 3 = .ok (.iload_n 1, 1) := by decide +kernel
theorem dL_worth_4 : decode cL_worth 4 = .ok (.iload_n 2, 1) := by decide +kernel
theorem dL_worth_5 : decode cL_worth 5 = .ok (.invokevirtual 89, 3) := by decide +kernel
theorem dL_worth_8 : decode cL_worth 8 = .ok (.i2l, 1) := by decide +kernel
theorem dL_worth_9 : decode cL_worth 9 = .ok (.lastore, 1) := by decide +kernel
theorem dL_worth_10 : decode cL_worth 10 = .ok (.goto 11, 3) := by decide +kernel
theorem dL_worth_13 : decode cL_worth 13 = .ok (.astore 4, 2) := by decide +kernel
theorem dL_worth_15 : decode cL_worth 15 = .ok (.iconst 1, 1) := by decide +kernel
theorem dL_worth_16 : decode cL_worth 16 = .ok (.ireturn, 1) := by decide +kernel
theorem dL_worth_17 : decode cL_worth 17 = .ok (.astore 4, 2) := by decide +kernel
theorem dL_worth_19 : decode cL_worth 19 = .ok (.iconst 2, 1) := by decide +kernel
theorem dL_worth_20 : decode cL_worth 20 = .ok (.ireturn, 1) := by decide +kernel
theorem dL_worth_21 : decode cL_worth 21 = .ok (.iconst 0, 1) := by decide +kernel
theorem dL_worth_22 : decode cL_worth 22 = .ok (.ireturn, 1) := by decide +kernel
theorem dL_grams_0 : decode cL_grams 0 = .ok (.aload_n 3, 1) := by decide +kernel
theorem dL_grams_1 : decode cL_grams 1 = .ok (.iconst 0, 1) := by decide +kernel
theorem dL_grams_2 : decode cL_grams 2 = .ok (.aload_n 0, 1) := by decide +kernel
theorem dL_grams_3 : decode cL_grams 3 = .ok (.iload_n 1, 1) := by decide +kernel
theorem dL_grams_4 : decode cL_grams 4 = .ok (.iload_n 2, 1) := by decide +kernel
theorem dL_grams_5 : decode cL_grams 5 = .ok (.invokevirtual 92, 3) := by decide +kernel
theorem dL_grams_8 : decode cL_grams 8 = .ok (.i2l, 1) := by decide +kernel
theorem dL_grams_9 : decode cL_grams 9 = .ok (.lastore, 1) := by decide +kernel
theorem dL_grams_10 : decode cL_grams 10 = .ok (.goto 7, 3) := by decide +kernel
theorem dL_grams_13 : decode cL_grams 13 = .ok (.astore 4, 2) := by decide +kernel
theorem dL_grams_15 : decode cL_grams 15 = .ok (.iconst 1, 1) := by decide +kernel
theorem dL_grams_16 : decode cL_grams 16 = .ok (.ireturn, 1) := by decide +kernel
theorem dL_grams_17 : decode cL_grams 17 = .ok (.iconst 0, 1) := by decide +kernel
theorem dL_grams_18 : decode cL_grams 18 = .ok (.ireturn, 1) := by decide +kernel
theorem dL_law_0 : decode cL_law 0 = .ok (.new 8, 3) := by decide +kernel
theorem dL_law_3 : decode cL_law 3 = .ok (.dup, 1) := by decide +kernel
theorem dL_law_4 : decode cL_law 4 = .ok (.invokespecial 95, 3) := by decide +kernel
theorem dL_law_7 : decode cL_law 7 = .ok (.astore_n 1, 1) := by decide +kernel
theorem dL_law_8 : decode cL_law 8 = .ok (.new 96, 3) := by decide +kernel
theorem dL_law_11 : decode cL_law 11 = .ok (.dup, 1) := by decide +kernel
theorem dL_law_12 : decode cL_law 12 = .ok (.invokespecial 98, 3) := by decide +kernel
theorem dL_law_15 : decode cL_law 15 = .ok (.astore_n 2, 1) := by decide +kernel
theorem dL_law_16 : decode cL_law 16 = .ok (.iconst 1, 1) := by decide +kernel
theorem dL_law_17 : decode cL_law 17 = .ok (.newarray .long, 2) := by decide +kernel
theorem dL_law_19 : decode cL_law 19 = .ok (.astore_n 3, 1) := by decide +kernel
theorem dL_law_20 : decode cL_law 20 = .ok (.iconst 0, 1) := by decide +kernel
theorem dL_law_21 : decode cL_law 21 = .ok (.istore 4, 2) := by decide +kernel
theorem dL_law_23 : decode cL_law 23 = .ok (.iload 4, 2) := by decide +kernel
theorem dL_law_25 : decode cL_law 25 = .ok (.aload_n 0, 1) := by decide +kernel
theorem dL_law_26 : decode cL_law 26 = .ok (.arraylength, 1) := by decide +kernel
theorem dL_law_27 : decode cL_law 27 = .ok (.bipush 6, 2) := by decide +kernel
theorem dL_law_29 : decode cL_law 29 = .ok (.isub, 1) := by decide +kernel
theorem dL_law_30 : decode cL_law 30 = .ok (.if_icmp .gt 2029, 3) := by decide +kernel
theorem dL_law_33 : decode cL_law 33 = .ok (.aload_n 0, 1) := by decide +kernel
theorem dL_law_34 : decode cL_law 34 = .ok (.iload 4, 2) := by decide +kernel
theorem dL_law_36 : decode cL_law 36 = .ok (.iaload, 1) := by decide +kernel
theorem dL_law_37 : decode cL_law 37 = .ok (.bipush 31, 2) := by decide +kernel
theorem dL_law_39 : decode cL_law 39 = .ok (.iand, 1) := by decide +kernel
theorem dL_law_40 : decode cL_law 40 = .ok (.tableswitch 2013 0 28 #[132, 188, 268, 392, 460, 533, 589, 688, 768, 848, 940, 1008, 1064, 1120, 1188, 1256, 1312, 1368, 1436, 1504, 1596, 1621, 1689, 1757, 1825, 1893, 1961, 1986, 2000], 132) := by decide +kernel
theorem dL_law_172 : decode cL_law 172 = .ok (.aload_n 1, 1) := by decide +kernel
theorem dL_law_173 : decode cL_law 173 = .ok (.aload_n 0, 1) := by decide +kernel
theorem dL_law_174 : decode cL_law 174 = .ok (.iload 4, 2) := by decide +kernel
theorem dL_law_176 : decode cL_law 176 = .ok (.iconst 1, 1) := by decide +kernel
theorem dL_law_177 : decode cL_law 177 = .ok (.iadd, 1) := by decide +kernel
theorem dL_law_178 : decode cL_law 178 = .ok (.iaload, 1) := by decide +kernel
theorem dL_law_179 : decode cL_law 179 = .ok (.aload_n 3, 1) := by decide +kernel
theorem dL_law_180 : decode cL_law 180 = .ok (.invokestatic 99, 3) := by decide +kernel
theorem dL_law_183 : decode cL_law 183 = .ok (.istore 5, 2) := by decide +kernel
theorem dL_law_185 : decode cL_law 185 = .ok (.aload_n 2, 1) := by decide +kernel
theorem dL_law_186 : decode cL_law 186 = .ok (.aload_n 0, 1) := by decide +kernel
theorem dL_law_187 : decode cL_law 187 = .ok (.iload 4, 2) := by decide +kernel
theorem dL_law_189 : decode cL_law 189 = .ok (.iconst 1, 1) := by decide +kernel
theorem dL_law_190 : decode cL_law 190 = .ok (.iadd, 1) := by decide +kernel
theorem dL_law_191 : decode cL_law 191 = .ok (.iaload, 1) := by decide +kernel
theorem dL_law_192 : decode cL_law 192 = .ok (.invokevirtual 104, 3) := by decide +kernel
theorem dL_law_195 : decode cL_law 195 = .ok (.istore 6, 2) := by decide +kernel
theorem dL_law_197 : decode cL_law 197 = .ok (.aload_n 2, 1) := by decide +kernel
theorem dL_law_198 : decode cL_law 198 = .ok (.invokevirtual 105, 3) := by decide +kernel
theorem dL_law_201 : decode cL_law 201 = .ok (.iload 5, 2) := by decide +kernel
theorem dL_law_203 : decode cL_law 203 = .ok (.if_icmp .eq 5, 3) := by decide +kernel
theorem dL_law_206 : decode cL_law 206 = .ok (.iconst 0, 1) := by decide +kernel
theorem dL_law_207 : decode cL_law 207 = .ok (.ireturn, 1) := by decide +kernel
theorem dL_law_208 : decode cL_law 208 = .ok (.iload 5, 2) := by decide +kernel
theorem dL_law_210 : decode cL_law 210 = .ok (.ifCond .ne 15, 3) := by decide +kernel
theorem dL_law_213 : decode cL_law 213 = .ok (.aload_n 3, 1) := by decide +kernel
theorem dL_law_214 : decode cL_law 214 = .ok (.iconst 0, 1) := by decide +kernel
theorem dL_law_215 : decode cL_law 215 = .ok (.laload, 1) := by decide +kernel
theorem dL_law_216 : decode cL_law 216 = .ok (.iload 6, 2) := by decide +kernel
theorem dL_law_218 : decode cL_law 218 = .ok (.i2l, 1) := by decide +kernel
theorem dL_law_219 : decode cL_law 219 = .ok (.lcmp, 1) := by decide +kernel
theorem dL_law_220 : decode cL_law 220 = .ok (.ifCond .eq 5, 3) := by decide +kernel
theorem dL_law_223 : decode cL_law 223 = .ok (.iconst 0, 1) := by decide +kernel
theorem dL_law_224 : decode cL_law 224 = .ok (.ireturn, 1) := by decide +kernel
theorem dL_law_225 : decode cL_law 225 = .ok (.goto 1828, 3) := by decide +kernel
theorem dL_law_228 : decode cL_law 228 = .ok (.aload_n 1, 1) := by decide +kernel
theorem dL_law_229 : decode cL_law 229 = .ok (.aload_n 0, 1) := by decide +kernel
theorem dL_law_230 : decode cL_law 230 = .ok (.iload 4, 2) := by decide +kernel
theorem dL_law_232 : decode cL_law 232 = .ok (.iconst 1, 1) := by decide +kernel
theorem dL_law_233 : decode cL_law 233 = .ok (.iadd, 1) := by decide +kernel
theorem dL_law_234 : decode cL_law 234 = .ok (.iaload, 1) := by decide +kernel
theorem dL_law_235 : decode cL_law 235 = .ok (.aload_n 0, 1) := by decide +kernel
theorem dL_law_236 : decode cL_law 236 = .ok (.iload 4, 2) := by decide +kernel
theorem dL_law_238 : decode cL_law 238 = .ok (.iconst 2, 1) := by decide +kernel
theorem dL_law_239 : decode cL_law 239 = .ok (.iadd, 1) := by decide +kernel
theorem dL_law_240 : decode cL_law 240 = .ok (.iaload, 1) := by decide +kernel
theorem dL_law_241 : decode cL_law 241 = .ok (.aload_n 0, 1) := by decide +kernel
theorem dL_law_242 : decode cL_law 242 = .ok (.iload 4, 2) := by decide +kernel
theorem dL_law_244 : decode cL_law 244 = .ok (.iconst 3, 1) := by decide +kernel
theorem dL_law_245 : decode cL_law 245 = .ok (.iadd, 1) := by decide +kernel
theorem dL_law_246 : decode cL_law 246 = .ok (.iaload, 1) := by decide +kernel
theorem dL_law_247 : decode cL_law 247 = .ok (.aload_n 3, 1) := by decide +kernel
theorem dL_law_248 : decode cL_law 248 = .ok (.invokestatic 109, 3) := by decide +kernel
theorem dL_law_251 : decode cL_law 251 = .ok (.istore 5, 2) := by decide +kernel
theorem dL_law_253 : decode cL_law 253 = .ok (.aload_n 2, 1) := by decide +kernel
theorem dL_law_254 : decode cL_law 254 = .ok (.aload_n 0, 1) := by decide +kernel
theorem dL_law_255 : decode cL_law 255 = .ok (.iload 4, 2) := by decide +kernel
theorem dL_law_257 : decode cL_law 257 = .ok (.iconst 1, 1) := by decide +kernel
theorem dL_law_258 : decode cL_law 258 = .ok (.iadd, 1) := by decide +kernel
theorem dL_law_259 : decode cL_law 259 = .ok (.iaload, 1) := by decide +kernel
theorem dL_law_260 : decode cL_law 260 = .ok (.aload_n 0, 1) := by decide +kernel
theorem dL_law_261 : decode cL_law 261 = .ok (.iload 4, 2) := by decide +kernel
theorem dL_law_263 : decode cL_law 263 = .ok (.iconst 2, 1) := by decide +kernel
theorem dL_law_264 : decode cL_law 264 = .ok (.iadd, 1) := by decide +kernel
theorem dL_law_265 : decode cL_law 265 = .ok (.iaload, 1) := by decide +kernel
theorem dL_law_266 : decode cL_law 266 = .ok (.aload_n 0, 1) := by decide +kernel
theorem dL_law_267 : decode cL_law 267 = .ok (.iload 4, 2) := by decide +kernel
theorem dL_law_269 : decode cL_law 269 = .ok (.iconst 3, 1) := by decide +kernel
theorem dL_law_270 : decode cL_law 270 = .ok (.iadd, 1) := by decide +kernel
theorem dL_law_271 : decode cL_law 271 = .ok (.iaload, 1) := by decide +kernel
theorem dL_law_272 : decode cL_law 272 = .ok (.invokevirtual 112, 3) := by decide +kernel
theorem dL_law_275 : decode cL_law 275 = .ok (.istore 6, 2) := by decide +kernel
theorem dL_law_277 : decode cL_law 277 = .ok (.aload_n 2, 1) := by decide +kernel
theorem dL_law_278 : decode cL_law 278 = .ok (.invokevirtual 105, 3) := by decide +kernel
theorem dL_law_281 : decode cL_law 281 = .ok (.iload 5, 2) := by decide +kernel
theorem dL_law_283 : decode cL_law 283 = .ok (.if_icmp .eq 5, 3) := by decide +kernel
theorem dL_law_286 : decode cL_law 286 = .ok (.iconst 0, 1) := by decide +kernel
theorem dL_law_287 : decode cL_law 287 = .ok (.ireturn, 1) := by decide +kernel
theorem dL_law_288 : decode cL_law 288 = .ok (.iload 5, 2) := by decide +kernel
theorem dL_law_290 : decode cL_law 290 = .ok (.ifCond .ne 15, 3) := by decide +kernel
theorem dL_law_293 : decode cL_law 293 = .ok (.aload_n 3, 1) := by decide +kernel
theorem dL_law_294 : decode cL_law 294 = .ok (.iconst 0, 1) := by decide +kernel
theorem dL_law_295 : decode cL_law 295 = .ok (.laload, 1) := by decide +kernel
theorem dL_law_296 : decode cL_law 296 = .ok (.iload 6, 2) := by decide +kernel
theorem dL_law_298 : decode cL_law 298 = .ok (.i2l, 1) := by decide +kernel
theorem dL_law_299 : decode cL_law 299 = .ok (.lcmp, 1) := by decide +kernel
theorem dL_law_300 : decode cL_law 300 = .ok (.ifCond .eq 5, 3) := by decide +kernel
theorem dL_law_303 : decode cL_law 303 = .ok (.iconst 0, 1) := by decide +kernel
theorem dL_law_304 : decode cL_law 304 = .ok (.ireturn, 1) := by decide +kernel
theorem dL_law_305 : decode cL_law 305 = .ok (.goto 1748, 3) := by decide +kernel
theorem dL_law_308 : decode cL_law 308 = .ok (.aload_n 1, 1) := by decide +kernel
theorem dL_law_309 : decode cL_law 309 = .ok (.aload_n 0, 1) := by decide +kernel
theorem dL_law_310 : decode cL_law 310 = .ok (.iload 4, 2) := by decide +kernel
theorem dL_law_312 : decode cL_law 312 = .ok (.iconst 1, 1) := by decide +kernel
theorem dL_law_313 : decode cL_law 313 = .ok (.iadd, 1) := by decide +kernel
theorem dL_law_314 : decode cL_law 314 = .ok (.iaload, 1) := by decide +kernel
theorem dL_law_315 : decode cL_law 315 = .ok (.aload_n 0, 1) := by decide +kernel
theorem dL_law_316 : decode cL_law 316 = .ok (.iload 4, 2) := by decide +kernel
theorem dL_law_318 : decode cL_law 318 = .ok (.iconst 2, 1) := by decide +kernel
theorem dL_law_319 : decode cL_law 319 = .ok (.iadd, 1) := by decide +kernel
theorem dL_law_320 : decode cL_law 320 = .ok (.iaload, 1) := by decide +kernel
theorem dL_law_321 : decode cL_law 321 = .ok (.aload_n 0, 1) := by decide +kernel
theorem dL_law_322 : decode cL_law 322 = .ok (.iload 4, 2) := by decide +kernel
theorem dL_law_324 : decode cL_law 324 = .ok (.iconst 3, 1) := by decide +kernel
theorem dL_law_325 : decode cL_law 325 = .ok (.iadd, 1) := by decide +kernel
theorem dL_law_326 : decode cL_law 326 = .ok (.iaload, 1) := by decide +kernel
theorem dL_law_327 : decode cL_law 327 = .ok (.aload_n 0, 1) := by decide +kernel
theorem dL_law_328 : decode cL_law 328 = .ok (.iload 4, 2) := by decide +kernel
theorem dL_law_330 : decode cL_law 330 = .ok (.iconst 4, 1) := by decide +kernel
theorem dL_law_331 : decode cL_law 331 = .ok (.iadd, 1) := by decide +kernel
theorem dL_law_332 : decode cL_law 332 = .ok (.iaload, 1) := by decide +kernel
theorem dL_law_333 : decode cL_law 333 = .ok (.i2l, 1) := by decide +kernel
theorem dL_law_334 : decode cL_law 334 = .ok (.bipush 32, 2) := by decide +kernel
theorem dL_law_336 : decode cL_law 336 = .ok (.lshl, 1) := by decide +kernel
theorem dL_law_337 : decode cL_law 337 = .ok (.aload_n 0, 1) := by decide +kernel
theorem dL_law_338 : decode cL_law 338 = .ok (.iload 4, 2) := by decide +kernel
theorem dL_law_340 : decode cL_law 340 = .ok (.iconst 5, 1) := by decide +kernel
theorem dL_law_341 : decode cL_law 341 = .ok (.iadd, 1) := by decide +kernel
theorem dL_law_342 : decode cL_law 342 = .ok (.iaload, 1) := by decide +kernel
theorem dL_law_343 : decode cL_law 343 = .ok (.i2l, 1) := by decide +kernel
theorem dL_law_344 : decode cL_law 344 = .ok (.ldc2_w 113, 3) := by decide +kernel
theorem dL_law_347 : decode cL_law 347 = .ok (.land, 1) := by decide +kernel
theorem dL_law_348 : decode cL_law 348 = .ok (.lor, 1) := by decide +kernel
theorem dL_law_349 : decode cL_law 349 = .ok (.aload_n 3, 1) := by decide +kernel
theorem dL_law_350 : decode cL_law 350 = .ok (.invokestatic 115, 3) := by decide +kernel
theorem dL_law_353 : decode cL_law 353 = .ok (.istore 5, 2) := by decide +kernel
theorem dL_law_355 : decode cL_law 355 = .ok (.aload_n 2, 1) := by decide +kernel
theorem dL_law_356 : decode cL_law 356 = .ok (.aload_n 0, 1) := by decide +kernel
theorem dL_law_357 : decode cL_law 357 = .ok (.iload 4, 2) := by decide +kernel
theorem dL_law_359 : decode cL_law 359 = .ok (.iconst 1, 1) := by decide +kernel
theorem dL_law_360 : decode cL_law 360 = .ok (.iadd, 1) := by decide +kernel
theorem dL_law_361 : decode cL_law 361 = .ok (.iaload, 1) := by decide +kernel
theorem dL_law_362 : decode cL_law 362 = .ok (.aload_n 0, 1) := by decide +kernel
theorem dL_law_363 : decode cL_law 363 = .ok (.iload 4, 2) := by decide +kernel
theorem dL_law_365 : decode cL_law 365 = .ok (.iconst 2, 1) := by decide +kernel
theorem dL_law_366 : decode cL_law 366 = .ok (.iadd, 1) := by decide +kernel
theorem dL_law_367 : decode cL_law 367 = .ok (.iaload, 1) := by decide +kernel
theorem dL_law_368 : decode cL_law 368 = .ok (.aload_n 0, 1) := by decide +kernel
theorem dL_law_369 : decode cL_law 369 = .ok (.iload 4, 2) := by decide +kernel
theorem dL_law_371 : decode cL_law 371 = .ok (.iconst 3, 1) := by decide +kernel
theorem dL_law_372 : decode cL_law 372 = .ok (.iadd, 1) := by decide +kernel
theorem dL_law_373 : decode cL_law 373 = .ok (.iaload, 1) := by decide +kernel
theorem dL_law_374 : decode cL_law 374 = .ok (.aload_n 0, 1) := by decide +kernel
theorem dL_law_375 : decode cL_law 375 = .ok (.iload 4, 2) := by decide +kernel
theorem dL_law_377 : decode cL_law 377 = .ok (.iconst 4, 1) := by decide +kernel
theorem dL_law_378 : decode cL_law 378 = .ok (.iadd, 1) := by decide +kernel
theorem dL_law_379 : decode cL_law 379 = .ok (.iaload, 1) := by decide +kernel
theorem dL_law_380 : decode cL_law 380 = .ok (.i2l, 1) := by decide +kernel
theorem dL_law_381 : decode cL_law 381 = .ok (.bipush 32, 2) := by decide +kernel
theorem dL_law_383 : decode cL_law 383 = .ok (.lshl, 1) := by decide +kernel
theorem dL_law_384 : decode cL_law 384 = .ok (.aload_n 0, 1) := by decide +kernel
theorem dL_law_385 : decode cL_law 385 = .ok (.iload 4, 2) := by decide +kernel
theorem dL_law_387 : decode cL_law 387 = .ok (.iconst 5, 1) := by decide +kernel
theorem dL_law_388 : decode cL_law 388 = .ok (.iadd, 1) := by decide +kernel
theorem dL_law_389 : decode cL_law 389 = .ok (.iaload, 1) := by decide +kernel
theorem dL_law_390 : decode cL_law 390 = .ok (.i2l, 1) := by decide +kernel
theorem dL_law_391 : decode cL_law 391 = .ok (.ldc2_w 113, 3) := by decide +kernel
theorem dL_law_394 : decode cL_law 394 = .ok (.land, 1) := by decide +kernel
theorem dL_law_395 : decode cL_law 395 = .ok (.lor, 1) := by decide +kernel
theorem dL_law_396 : decode cL_law 396 = .ok (.invokevirtual 118, 3) := by decide +kernel
theorem dL_law_399 : decode cL_law 399 = .ok (.istore 6, 2) := by decide +kernel
theorem dL_law_401 : decode cL_law 401 = .ok (.aload_n 2, 1) := by decide +kernel
theorem dL_law_402 : decode cL_law 402 = .ok (.invokevirtual 105, 3) := by decide +kernel
theorem dL_law_405 : decode cL_law 405 = .ok (.iload 5, 2) := by decide +kernel
theorem dL_law_407 : decode cL_law 407 = .ok (.if_icmp .eq 5, 3) := by decide +kernel
theorem dL_law_410 : decode cL_law 410 = .ok (.iconst 0, 1) := by decide +kernel
theorem dL_law_411 : decode cL_law 411 = .ok (.ireturn, 1) := by decide +kernel
theorem dL_law_412 : decode cL_law 412 = .ok (.iload 5, 2) := by decide +kernel
theorem dL_law_414 : decode cL_law 414 = .ok (.ifCond .ne 15, 3) := by decide +kernel
theorem dL_law_417 : decode cL_law 417 = .ok (.aload_n 3, 1) := by decide +kernel
theorem dL_law_418 : decode cL_law 418 = .ok (.iconst 0, 1) := by decide +kernel
theorem dL_law_419 : decode cL_law 419 = .ok (.laload, 1) := by decide +kernel
theorem dL_law_420 : decode cL_law 420 = .ok (.iload 6, 2) := by decide +kernel
theorem dL_law_422 : decode cL_law 422 = .ok (.i2l, 1) := by decide +kernel
theorem dL_law_423 : decode cL_law 423 = .ok (.lcmp, 1) := by decide +kernel
theorem dL_law_424 : decode cL_law 424 = .ok (.ifCond .eq 5, 3) := by decide +kernel
theorem dL_law_427 : decode cL_law 427 = .ok (.iconst 0, 1) := by decide +kernel
theorem dL_law_428 : decode cL_law 428 = .ok (.ireturn, 1) := by decide +kernel
theorem dL_law_429 : decode cL_law 429 = .ok (.goto 1624, 3) := by decide +kernel
theorem dL_law_432 : decode cL_law 432 = .ok (.aload_n 1, 1) := by decide +kernel
theorem dL_law_433 : decode cL_law 433 = .ok (.aload_n 0, 1) := by decide +kernel
theorem dL_law_434 : decode cL_law 434 = .ok (.iload 4, 2) := by decide +kernel
theorem dL_law_436 : decode cL_law 436 = .ok (.iconst 1, 1) := by decide +kernel
theorem dL_law_437 : decode cL_law 437 = .ok (.iadd, 1) := by decide +kernel
theorem dL_law_438 : decode cL_law 438 = .ok (.iaload, 1) := by decide +kernel
theorem dL_law_439 : decode cL_law 439 = .ok (.aload_n 0, 1) := by decide +kernel
theorem dL_law_440 : decode cL_law 440 = .ok (.iload 4, 2) := by decide +kernel
theorem dL_law_442 : decode cL_law 442 = .ok (.iconst 2, 1) := by decide +kernel
theorem dL_law_443 : decode cL_law 443 = .ok (.iadd, 1) := by decide +kernel
theorem dL_law_444 : decode cL_law 444 = .ok (.iaload, 1) := by decide +kernel
theorem dL_law_445 : decode cL_law 445 = .ok (.aload_n 3, 1) := by decide +kernel
theorem dL_law_446 : decode cL_law 446 = .ok (.invokestatic 119, 3) := by decide +kernel
theorem dL_law_449 : decode cL_law 449 = .ok (.istore 5, 2) := by decide +kernel
theorem dL_law_451 : decode cL_law 451 = .ok (.aload_n 2, 1) := by decide +kernel
theorem dL_law_452 : decode cL_law 452 = .ok (.aload_n 0, 1) := by decide +kernel
theorem dL_law_453 : decode cL_law 453 = .ok (.iload 4, 2) := by decide +kernel
theorem dL_law_455 : decode cL_law 455 = .ok (.iconst 1, 1) := by decide +kernel
theorem dL_law_456 : decode cL_law 456 = .ok (.iadd, 1) := by decide +kernel
theorem dL_law_457 : decode cL_law 457 = .ok (.iaload, 1) := by decide +kernel
theorem dL_law_458 : decode cL_law 458 = .ok (.aload_n 0, 1) := by decide +kernel
theorem dL_law_459 : decode cL_law 459 = .ok (.iload 4, 2) := by decide +kernel
theorem dL_law_461 : decode cL_law 461 = .ok (.iconst 2, 1) := by decide +kernel
theorem dL_law_462 : decode cL_law 462 = .ok (.iadd, 1) := by decide +kernel
theorem dL_law_463 : decode cL_law 463 = .ok (.iaload, 1) := by decide +kernel
theorem dL_law_464 : decode cL_law 464 = .ok (.invokevirtual 122, 3) := by decide +kernel
theorem dL_law_467 : decode cL_law 467 = .ok (.istore 6, 2) := by decide +kernel
theorem dL_law_469 : decode cL_law 469 = .ok (.aload_n 2, 1) := by decide +kernel
theorem dL_law_470 : decode cL_law 470 = .ok (.invokevirtual 105, 3) := by decide +kernel
theorem dL_law_473 : decode cL_law 473 = .ok (.iload 5, 2) := by decide +kernel
theorem dL_law_475 : decode cL_law 475 = .ok (.if_icmp .eq 5, 3) := by decide +kernel
theorem dL_law_478 : decode cL_law 478 = .ok (.iconst 0, 1) := by decide +kernel
theorem dL_law_479 : decode cL_law 479 = .ok (.ireturn, 1) := by decide +kernel
theorem dL_law_480 : decode cL_law 480 = .ok (.iload 5, 2) := by decide +kernel
theorem dL_law_482 : decode cL_law 482 = .ok (.ifCond .ne 15, 3) := by decide +kernel
theorem dL_law_485 : decode cL_law 485 = .ok (.aload_n 3, 1) := by decide +kernel
theorem dL_law_486 : decode cL_law 486 = .ok (.iconst 0, 1) := by decide +kernel
theorem dL_law_487 : decode cL_law 487 = .ok (.laload, 1) := by decide +kernel
theorem dL_law_488 : decode cL_law 488 = .ok (.iload 6, 2) := by decide +kernel
theorem dL_law_490 : decode cL_law 490 = .ok (.i2l, 1) := by decide +kernel
theorem dL_law_491 : decode cL_law 491 = .ok (.lcmp, 1) := by decide +kernel
theorem dL_law_492 : decode cL_law 492 = .ok (.ifCond .eq 5, 3) := by decide +kernel
theorem dL_law_495 : decode cL_law 495 = .ok (.iconst 0, 1) := by decide +kernel
theorem dL_law_496 : decode cL_law 496 = .ok (.ireturn, 1) := by decide +kernel
theorem dL_law_497 : decode cL_law 497 = .ok (.goto 1556, 3) := by decide +kernel
theorem dL_law_500 : decode cL_law 500 = .ok (.aload_n 1, 1) := by decide +kernel
theorem dL_law_501 : decode cL_law 501 = .ok (.aload_n 0, 1) := by decide +kernel
theorem dL_law_502 : decode cL_law 502 = .ok (.iload 4, 2) := by decide +kernel
theorem dL_law_504 : decode cL_law 504 = .ok (.iconst 1, 1) := by decide +kernel
theorem dL_law_505 : decode cL_law 505 = .ok (.iadd, 1) := by decide +kernel
theorem dL_law_506 : decode cL_law 506 = .ok (.iaload, 1) := by decide +kernel
theorem dL_law_507 : decode cL_law 507 = .ok (.aload_n 0, 1) := by decide +kernel
theorem dL_law_508 : decode cL_law 508 = .ok (.iload 4, 2) := by decide +kernel
theorem dL_law_510 : decode cL_law 510 = .ok (.iconst 2, 1) := by decide +kernel
theorem dL_law_511 : decode cL_law 511 = .ok (.iadd, 1) := by decide +kernel
theorem dL_law_512 : decode cL_law 512 = .ok (.iaload, 1) := by decide +kernel
theorem dL_law_513 : decode cL_law 513 = .ok (.aload_n 0, 1) := by decide +kernel
theorem dL_law_514 : decode cL_law 514 = .ok (.iload 4, 2) := by decide +kernel
theorem dL_law_516 : decode cL_law 516 = .ok (.iconst 3, 1) := by decide +kernel
theorem dL_law_517 : decode cL_law 517 = .ok (.iadd, 1) := by decide +kernel
theorem dL_law_518 : decode cL_law 518 = .ok (.iaload, 1) := by decide +kernel
theorem dL_law_519 : decode cL_law 519 = .ok (.aload_n 0, 1) := by decide +kernel
theorem dL_law_520 : decode cL_law 520 = .ok (.iload 4, 2) := by decide +kernel
theorem dL_law_522 : decode cL_law 522 = .ok (.iconst 4, 1) := by decide +kernel
theorem dL_law_523 : decode cL_law 523 = .ok (.iadd, 1) := by decide +kernel
theorem dL_law_524 : decode cL_law 524 = .ok (.iaload, 1) := by decide +kernel
theorem dL_law_525 : decode cL_law 525 = .ok (.aload_n 0, 1) := by decide +kernel
theorem dL_law_526 : decode cL_law 526 = .ok (.iload 4, 2) := by decide +kernel
theorem dL_law_528 : decode cL_law 528 = .ok (.iconst 5, 1) := by decide +kernel
theorem dL_law_529 : decode cL_law 529 = .ok (.iadd, 1) := by decide +kernel
theorem dL_law_530 : decode cL_law 530 = .ok (.iaload, 1) := by decide +kernel
theorem dL_law_531 : decode cL_law 531 = .ok (.invokevirtual 123, 3) := by decide +kernel
theorem dL_law_534 : decode cL_law 534 = .ok (.aload_n 2, 1) := by decide +kernel
theorem dL_law_535 : decode cL_law 535 = .ok (.aload_n 0, 1) := by decide +kernel
theorem dL_law_536 : decode cL_law 536 = .ok (.iload 4, 2) := by decide +kernel
theorem dL_law_538 : decode cL_law 538 = .ok (.iconst 1, 1) := by decide +kernel
theorem dL_law_539 : decode cL_law 539 = .ok (.iadd, 1) := by decide +kernel
theorem dL_law_540 : decode cL_law 540 = .ok (.iaload, 1) := by decide +kernel
theorem dL_law_541 : decode cL_law 541 = .ok (.aload_n 0, 1) := by decide +kernel
theorem dL_law_542 : decode cL_law 542 = .ok (.iload 4, 2) := by decide +kernel
theorem dL_law_544 : decode cL_law 544 = .ok (.iconst 2, 1) := by decide +kernel
theorem dL_law_545 : decode cL_law 545 = .ok (.iadd, 1) := by decide +kernel
theorem dL_law_546 : decode cL_law 546 = .ok (.iaload, 1) := by decide +kernel
theorem dL_law_547 : decode cL_law 547 = .ok (.aload_n 0, 1) := by decide +kernel
theorem dL_law_548 : decode cL_law 548 = .ok (.iload 4, 2) := by decide +kernel
theorem dL_law_550 : decode cL_law 550 = .ok (.iconst 3, 1) := by decide +kernel
theorem dL_law_551 : decode cL_law 551 = .ok (.iadd, 1) := by decide +kernel
theorem dL_law_552 : decode cL_law 552 = .ok (.iaload, 1) := by decide +kernel
theorem dL_law_553 : decode cL_law 553 = .ok (.aload_n 0, 1) := by decide +kernel
theorem dL_law_554 : decode cL_law 554 = .ok (.iload 4, 2) := by decide +kernel
theorem dL_law_556 : decode cL_law 556 = .ok (.iconst 4, 1) := by decide +kernel
theorem dL_law_557 : decode cL_law 557 = .ok (.iadd, 1) := by decide +kernel
theorem dL_law_558 : decode cL_law 558 = .ok (.iaload, 1) := by decide +kernel
theorem dL_law_559 : decode cL_law 559 = .ok (.aload_n 0, 1) := by decide +kernel
theorem dL_law_560 : decode cL_law 560 = .ok (.iload 4, 2) := by decide +kernel
theorem dL_law_562 : decode cL_law 562 = .ok (.iconst 5, 1) := by decide +kernel
theorem dL_law_563 : decode cL_law 563 = .ok (.iadd, 1) := by decide +kernel
theorem dL_law_564 : decode cL_law 564 = .ok (.iaload, 1) := by decide +kernel
theorem dL_law_565 : decode cL_law 565 = .ok (.invokevirtual 127, 3) := by decide +kernel
theorem dL_law_568 : decode cL_law 568 = .ok (.if_icmp .eq 1485, 3) := by decide +kernel
theorem dL_law_571 : decode cL_law 571 = .ok (.iconst 0, 1) := by decide +kernel
theorem dL_law_572 : decode cL_law 572 = .ok (.ireturn, 1) := by decide +kernel
theorem dL_law_573 : decode cL_law 573 = .ok (.aload_n 1, 1) := by decide +kernel
theorem dL_law_574 : decode cL_law 574 = .ok (.aload_n 0, 1) := by decide +kernel
theorem dL_law_575 : decode cL_law 575 = .ok (.iload 4, 2) := by decide +kernel
theorem dL_law_577 : decode cL_law 577 = .ok (.iconst 1, 1) := by decide +kernel
theorem dL_law_578 : decode cL_law 578 = .ok (.iadd, 1) := by decide +kernel
theorem dL_law_579 : decode cL_law 579 = .ok (.iaload, 1) := by decide +kernel
theorem dL_law_580 : decode cL_law 580 = .ok (.aload_n 3, 1) := by decide +kernel
theorem dL_law_581 : decode cL_law 581 = .ok (.invokestatic 128, 3) := by decide +kernel
theorem dL_law_584 : decode cL_law 584 = .ok (.istore 5, 2) := by decide +kernel
theorem dL_law_586 : decode cL_law 586 = .ok (.aload_n 2, 1) := by decide +kernel
theorem dL_law_587 : decode cL_law 587 = .ok (.aload_n 0, 1) := by decide +kernel
theorem dL_law_588 : decode cL_law 588 = .ok (.iload 4, 2) := by decide +kernel
theorem dL_law_590 : decode cL_law 590 = .ok (.iconst 1, 1) := by decide +kernel
theorem dL_law_591 : decode cL_law 591 = .ok (.iadd, 1) := by decide +kernel
theorem dL_law_592 : decode cL_law 592 = .ok (.iaload, 1) := by decide +kernel
theorem dL_law_593 : decode cL_law 593 = .ok (.invokevirtual 130, 3) := by decide +kernel
theorem dL_law_596 : decode cL_law 596 = .ok (.istore 6, 2) := by decide +kernel
theorem dL_law_598 : decode cL_law 598 = .ok (.aload_n 2, 1) := by decide +kernel
theorem dL_law_599 : decode cL_law 599 = .ok (.invokevirtual 105, 3) := by decide +kernel
theorem dL_law_602 : decode cL_law 602 = .ok (.iload 5, 2) := by decide +kernel
theorem dL_law_604 : decode cL_law 604 = .ok (.if_icmp .eq 5, 3) := by decide +kernel
theorem dL_law_607 : decode cL_law 607 = .ok (.iconst 0, 1) := by decide +kernel
theorem dL_law_608 : decode cL_law 608 = .ok (.ireturn, 1) := by decide +kernel
theorem dL_law_609 : decode cL_law 609 = .ok (.iload 5, 2) := by decide +kernel
theorem dL_law_611 : decode cL_law 611 = .ok (.ifCond .ne 15, 3) := by decide +kernel
theorem dL_law_614 : decode cL_law 614 = .ok (.aload_n 3, 1) := by decide +kernel
theorem dL_law_615 : decode cL_law 615 = .ok (.iconst 0, 1) := by decide +kernel
theorem dL_law_616 : decode cL_law 616 = .ok (.laload, 1) := by decide +kernel
theorem dL_law_617 : decode cL_law 617 = .ok (.iload 6, 2) := by decide +kernel
theorem dL_law_619 : decode cL_law 619 = .ok (.i2l, 1) := by decide +kernel
theorem dL_law_620 : decode cL_law 620 = .ok (.lcmp, 1) := by decide +kernel
theorem dL_law_621 : decode cL_law 621 = .ok (.ifCond .eq 5, 3) := by decide +kernel
theorem dL_law_624 : decode cL_law 624 = .ok (.iconst 0, 1) := by decide +kernel
theorem dL_law_625 : decode cL_law 625 = .ok (.ireturn, 1) := by decide +kernel
theorem dL_law_626 : decode cL_law 626 = .ok (.goto 1427, 3) := by decide +kernel
theorem dL_law_629 : decode cL_law 629 = .ok (.aload_n 1, 1) := by decide +kernel
theorem dL_law_630 : decode cL_law 630 = .ok (.aload_n 0, 1) := by decide +kernel
theorem dL_law_631 : decode cL_law 631 = .ok (.iload 4, 2) := by decide +kernel
theorem dL_law_633 : decode cL_law 633 = .ok (.iconst 1, 1) := by decide +kernel
theorem dL_law_634 : decode cL_law 634 = .ok (.iadd, 1) := by decide +kernel
theorem dL_law_635 : decode cL_law 635 = .ok (.iaload, 1) := by decide +kernel
theorem dL_law_636 : decode cL_law 636 = .ok (.aload_n 0, 1) := by decide +kernel
theorem dL_law_637 : decode cL_law 637 = .ok (.iload 4, 2) := by decide +kernel
theorem dL_law_639 : decode cL_law 639 = .ok (.iconst 2, 1) := by decide +kernel
theorem dL_law_640 : decode cL_law 640 = .ok (.iadd, 1) := by decide +kernel
theorem dL_law_641 : decode cL_law 641 = .ok (.iaload, 1) := by decide +kernel
theorem dL_law_642 : decode cL_law 642 = .ok (.aload_n 0, 1) := by decide +kernel
theorem dL_law_643 : decode cL_law 643 = .ok (.iload 4, 2) := by decide +kernel
theorem dL_law_645 : decode cL_law 645 = .ok (.iconst 3, 1) := by decide +kernel
theorem dL_law_646 : decode cL_law 646 = .ok (.iadd, 1) := by decide +kernel
theorem dL_law_647 : decode cL_law 647 = .ok (.iaload, 1) := by decide +kernel
theorem dL_law_648 : decode cL_law 648 = .ok (.aload_n 0, 1) := by decide +kernel
theorem dL_law_649 : decode cL_law 649 = .ok (.iload 4, 2) := by decide +kernel
theorem dL_law_651 : decode cL_law 651 = .ok (.iconst 4, 1) := by decide +kernel
theorem dL_law_652 : decode cL_law 652 = .ok (.iadd, 1) := by decide +kernel
theorem dL_law_653 : decode cL_law 653 = .ok (.iaload, 1) := by decide +kernel
theorem dL_law_654 : decode cL_law 654 = .ok (.aload_n 3, 1) := by decide +kernel
theorem dL_law_655 : decode cL_law 655 = .ok (.invokestatic 131, 3) := by decide +kernel
theorem dL_law_658 : decode cL_law 658 = .ok (.istore 5, 2) := by decide +kernel
theorem dL_law_660 : decode cL_law 660 = .ok (.aload_n 2, 1) := by decide +kernel
theorem dL_law_661 : decode cL_law 661 = .ok (.aload_n 0, 1) := by decide +kernel
theorem dL_law_662 : decode cL_law 662 = .ok (.iload 4, 2) := by decide +kernel
theorem dL_law_664 : decode cL_law 664 = .ok (.iconst 1, 1) := by decide +kernel
theorem dL_law_665 : decode cL_law 665 = .ok (.iadd, 1) := by decide +kernel
theorem dL_law_666 : decode cL_law 666 = .ok (.iaload, 1) := by decide +kernel
theorem dL_law_667 : decode cL_law 667 = .ok (.aload_n 0, 1) := by decide +kernel
theorem dL_law_668 : decode cL_law 668 = .ok (.iload 4, 2) := by decide +kernel
theorem dL_law_670 : decode cL_law 670 = .ok (.iconst 2, 1) := by decide +kernel
theorem dL_law_671 : decode cL_law 671 = .ok (.iadd, 1) := by decide +kernel
theorem dL_law_672 : decode cL_law 672 = .ok (.iaload, 1) := by decide +kernel
theorem dL_law_673 : decode cL_law 673 = .ok (.aload_n 0, 1) := by decide +kernel
theorem dL_law_674 : decode cL_law 674 = .ok (.iload 4, 2) := by decide +kernel
theorem dL_law_676 : decode cL_law 676 = .ok (.iconst 3, 1) := by decide +kernel
theorem dL_law_677 : decode cL_law 677 = .ok (.iadd, 1) := by decide +kernel
theorem dL_law_678 : decode cL_law 678 = .ok (.iaload, 1) := by decide +kernel
theorem dL_law_679 : decode cL_law 679 = .ok (.aload_n 0, 1) := by decide +kernel
theorem dL_law_680 : decode cL_law 680 = .ok (.iload 4, 2) := by decide +kernel
theorem dL_law_682 : decode cL_law 682 = .ok (.iconst 4, 1) := by decide +kernel
theorem dL_law_683 : decode cL_law 683 = .ok (.iadd, 1) := by decide +kernel
theorem dL_law_684 : decode cL_law 684 = .ok (.iaload, 1) := by decide +kernel
theorem dL_law_685 : decode cL_law 685 = .ok (.invokevirtual 134, 3) := by decide +kernel
theorem dL_law_688 : decode cL_law 688 = .ok (.istore 6, 2) := by decide +kernel
theorem dL_law_690 : decode cL_law 690 = .ok (.aload_n 2, 1) := by decide +kernel
theorem dL_law_691 : decode cL_law 691 = .ok (.invokevirtual 105, 3) := by decide +kernel
theorem dL_law_694 : decode cL_law 694 = .ok (.iload 5, 2) := by decide +kernel
theorem dL_law_696 : decode cL_law 696 = .ok (.if_icmp .eq 5, 3) := by decide +kernel
theorem dL_law_699 : decode cL_law 699 = .ok (.iconst 0, 1) := by decide +kernel
theorem dL_law_700 : decode cL_law 700 = .ok (.ireturn, 1) := by decide +kernel
theorem dL_law_701 : decode cL_law 701 = .ok (.iload 5, 2) := by decide +kernel
theorem dL_law_703 : decode cL_law 703 = .ok (.ifCond .ne 22, 3) := by decide +kernel
theorem dL_law_706 : decode cL_law 706 = .ok (.aload_n 3, 1) := by decide +kernel
theorem dL_law_707 : decode cL_law 707 = .ok (.iconst 0, 1) := by decide +kernel
theorem dL_law_708 : decode cL_law 708 = .ok (.laload, 1) := by decide +kernel
theorem dL_law_709 : decode cL_law 709 = .ok (.iload 6, 2) := by decide +kernel
theorem dL_law_711 : decode cL_law 711 = .ok (.ifCond .eq 7, 3) := by decide +kernel
theorem dL_law_714 : decode cL_law 714 = .ok (.lconst 1, 1) := by decide +kernel
theorem dL_law_715 : decode cL_law 715 = .ok (.goto 4, 3) := by decide +kernel
theorem dL_law_718 : decode cL_law 718 = .ok (.lconst 0, 1) := by decide +kernel
theorem dL_law_719 : decode cL_law 719 = .ok (.lcmp, 1) := by decide +kernel
theorem dL_law_720 : decode cL_law 720 = .ok (.ifCond .eq 5, 3) := by decide +kernel
theorem dL_law_723 : decode cL_law 723 = .ok (.iconst 0, 1) := by decide +kernel
theorem dL_law_724 : decode cL_law 724 = .ok (.ireturn, 1) := by decide +kernel
theorem dL_law_725 : decode cL_law 725 = .ok (.goto 1328, 3) := by decide +kernel
theorem dL_law_728 : decode cL_law 728 = .ok (.aload_n 1, 1) := by decide +kernel
theorem dL_law_729 : decode cL_law 729 = .ok (.aload_n 0, 1) := by decide +kernel
theorem dL_law_730 : decode cL_law 730 = .ok (.iload 4, 2) := by decide +kernel
theorem dL_law_732 : decode cL_law 732 = .ok (.iconst 1, 1) := by decide +kernel
theorem dL_law_733 : decode cL_law 733 = .ok (.iadd, 1) := by decide +kernel
theorem dL_law_734 : decode cL_law 734 = .ok (.iaload, 1) := by decide +kernel
theorem dL_law_735 : decode cL_law 735 = .ok (.aload_n 0, 1) := by decide +kernel
theorem dL_law_736 : decode cL_law 736 = .ok (.iload 4, 2) := by decide +kernel
theorem dL_law_738 : decode cL_law 738 = .ok (.iconst 2, 1) := by decide +kernel
theorem dL_law_739 : decode cL_law 739 = .ok (.iadd, 1) := by decide +kernel
theorem dL_law_740 : decode cL_law 740 = .ok (.iaload, 1) := by decide +kernel
theorem dL_law_741 : decode cL_law 741 = .ok (.aload_n 0, 1) := by decide +kernel
theorem dL_law_742 : decode cL_law 742 = .ok (.iload 4, 2) := by decide +kernel
theorem dL_law_744 : decode cL_law 744 = .ok (.iconst 3, 1) := by decide +kernel
theorem dL_law_745 : decode cL_law 745 = .ok (.iadd, 1) := by decide +kernel
theorem dL_law_746 : decode cL_law 746 = .ok (.iaload, 1) := by decide +kernel
theorem dL_law_747 : decode cL_law 747 = .ok (.aload_n 3, 1) := by decide +kernel
theorem dL_law_748 : decode cL_law 748 = .ok (.invokestatic 135, 3) := by decide +kernel
theorem dL_law_751 : decode cL_law 751 = .ok (.istore 5, 2) := by decide +kernel
theorem dL_law_753 : decode cL_law 753 = .ok (.aload_n 2, 1) := by decide +kernel
theorem dL_law_754 : decode cL_law 754 = .ok (.aload_n 0, 1) := by decide +kernel
theorem dL_law_755 : decode cL_law 755 = .ok (.iload 4, 2) := by decide +kernel
theorem dL_law_757 : decode cL_law 757 = .ok (.iconst 1, 1) := by decide +kernel
theorem dL_law_758 : decode cL_law 758 = .ok (.iadd, 1) := by decide +kernel
theorem dL_law_759 : decode cL_law 759 = .ok (.iaload, 1) := by decide +kernel
theorem dL_law_760 : decode cL_law 760 = .ok (.aload_n 0, 1) := by decide +kernel
theorem dL_law_761 : decode cL_law 761 = .ok (.iload 4, 2) := by decide +kernel
theorem dL_law_763 : decode cL_law 763 = .ok (.iconst 2, 1) := by decide +kernel
theorem dL_law_764 : decode cL_law 764 = .ok (.iadd, 1) := by decide +kernel
theorem dL_law_765 : decode cL_law 765 = .ok (.iaload, 1) := by decide +kernel
theorem dL_law_766 : decode cL_law 766 = .ok (.aload_n 0, 1) := by decide +kernel
theorem dL_law_767 : decode cL_law 767 = .ok (.iload 4, 2) := by decide +kernel
theorem dL_law_769 : decode cL_law 769 = .ok (.iconst 3, 1) := by decide +kernel
theorem dL_law_770 : decode cL_law 770 = .ok (.iadd, 1) := by decide +kernel
theorem dL_law_771 : decode cL_law 771 = .ok (.iaload, 1) := by decide +kernel
theorem dL_law_772 : decode cL_law 772 = .ok (.invokevirtual 137, 3) := by decide +kernel
theorem dL_law_775 : decode cL_law 775 = .ok (.istore 6, 2) := by decide +kernel
theorem dL_law_777 : decode cL_law 777 = .ok (.aload_n 2, 1) := by decide +kernel
theorem dL_law_778 : decode cL_law 778 = .ok (.invokevirtual 105, 3) := by decide +kernel
theorem dL_law_781 : decode cL_law 781 = .ok (.iload 5, 2) := by decide +kernel
theorem dL_law_783 : decode cL_law 783 = .ok (.if_icmp .eq 5, 3) := by decide +kernel
theorem dL_law_786 : decode cL_law 786 = .ok (.iconst 0, 1) := by decide +kernel
theorem dL_law_787 : decode cL_law 787 = .ok (.ireturn, 1) := by decide +kernel
theorem dL_law_788 : decode cL_law 788 = .ok (.iload 5, 2) := by decide +kernel
theorem dL_law_790 : decode cL_law 790 = .ok (.ifCond .ne 15, 3) := by decide +kernel
theorem dL_law_793 : decode cL_law 793 = .ok (.aload_n 3, 1) := by decide +kernel
theorem dL_law_794 : decode cL_law 794 = .ok (.iconst 0, 1) := by decide +kernel
theorem dL_law_795 : decode cL_law 795 = .ok (.laload, 1) := by decide +kernel
theorem dL_law_796 : decode cL_law 796 = .ok (.iload 6, 2) := by decide +kernel
theorem dL_law_798 : decode cL_law 798 = .ok (.i2l, 1) := by decide +kernel
theorem dL_law_799 : decode cL_law 799 = .ok (.lcmp, 1) := by decide +kernel
theorem dL_law_800 : decode cL_law 800 = .ok (.ifCond .eq 5, 3) := by decide +kernel
theorem dL_law_803 : decode cL_law 803 = .ok (.iconst 0, 1) := by decide +kernel
theorem dL_law_804 : decode cL_law 804 = .ok (.ireturn, 1) := by decide +kernel
theorem dL_law_805 : decode cL_law 805 = .ok (.goto 1248, 3) := by decide +kernel
theorem dL_law_808 : decode cL_law 808 = .ok (.aload_n 1, 1) := by decide +kernel
theorem dL_law_809 : decode cL_law 809 = .ok (.aload_n 0, 1) := by decide +kernel
theorem dL_law_810 : decode cL_law 810 = .ok (.iload 4, 2) := by decide +kernel
theorem dL_law_812 : decode cL_law 812 = .ok (.iconst 1, 1) := by decide +kernel
theorem dL_law_813 : decode cL_law 813 = .ok (.iadd, 1) := by decide +kernel
theorem dL_law_814 : decode cL_law 814 = .ok (.iaload, 1) := by decide +kernel
theorem dL_law_815 : decode cL_law 815 = .ok (.aload_n 0, 1) := by decide +kernel
theorem dL_law_816 : decode cL_law 816 = .ok (.iload 4, 2) := by decide +kernel
theorem dL_law_818 : decode cL_law 818 = .ok (.iconst 2, 1) := by decide +kernel
theorem dL_law_819 : decode cL_law 819 = .ok (.iadd, 1) := by decide +kernel
theorem dL_law_820 : decode cL_law 820 = .ok (.iaload, 1) := by decide +kernel
theorem dL_law_821 : decode cL_law 821 = .ok (.aload_n 0, 1) := by decide +kernel
theorem dL_law_822 : decode cL_law 822 = .ok (.iload 4, 2) := by decide +kernel
theorem dL_law_824 : decode cL_law 824 = .ok (.iconst 3, 1) := by decide +kernel
theorem dL_law_825 : decode cL_law 825 = .ok (.iadd, 1) := by decide +kernel
theorem dL_law_826 : decode cL_law 826 = .ok (.iaload, 1) := by decide +kernel
theorem dL_law_827 : decode cL_law 827 = .ok (.aload_n 3, 1) := by decide +kernel
theorem dL_law_828 : decode cL_law 828 = .ok (.invokestatic 138, 3) := by decide +kernel
theorem dL_law_831 : decode cL_law 831 = .ok (.istore 5, 2) := by decide +kernel
theorem dL_law_833 : decode cL_law 833 = .ok (.aload_n 2, 1) := by decide +kernel
theorem dL_law_834 : decode cL_law 834 = .ok (.aload_n 0, 1) := by decide +kernel
theorem dL_law_835 : decode cL_law 835 = .ok (.iload 4, 2) := by decide +kernel
theorem dL_law_837 : decode cL_law 837 = .ok (.iconst 1, 1) := by decide +kernel
theorem dL_law_838 : decode cL_law 838 = .ok (.iadd, 1) := by decide +kernel
theorem dL_law_839 : decode cL_law 839 = .ok (.iaload, 1) := by decide +kernel
theorem dL_law_840 : decode cL_law 840 = .ok (.aload_n 0, 1) := by decide +kernel
theorem dL_law_841 : decode cL_law 841 = .ok (.iload 4, 2) := by decide +kernel
theorem dL_law_843 : decode cL_law 843 = .ok (.iconst 2, 1) := by decide +kernel
theorem dL_law_844 : decode cL_law 844 = .ok (.iadd, 1) := by decide +kernel
theorem dL_law_845 : decode cL_law 845 = .ok (.iaload, 1) := by decide +kernel
theorem dL_law_846 : decode cL_law 846 = .ok (.aload_n 0, 1) := by decide +kernel
theorem dL_law_847 : decode cL_law 847 = .ok (.iload 4, 2) := by decide +kernel
theorem dL_law_849 : decode cL_law 849 = .ok (.iconst 3, 1) := by decide +kernel
theorem dL_law_850 : decode cL_law 850 = .ok (.iadd, 1) := by decide +kernel
theorem dL_law_851 : decode cL_law 851 = .ok (.iaload, 1) := by decide +kernel
theorem dL_law_852 : decode cL_law 852 = .ok (.invokevirtual 140, 3) := by decide +kernel
theorem dL_law_855 : decode cL_law 855 = .ok (.istore 6, 2) := by decide +kernel
theorem dL_law_857 : decode cL_law 857 = .ok (.aload_n 2, 1) := by decide +kernel
theorem dL_law_858 : decode cL_law 858 = .ok (.invokevirtual 105, 3) := by decide +kernel
theorem dL_law_861 : decode cL_law 861 = .ok (.iload 5, 2) := by decide +kernel
theorem dL_law_863 : decode cL_law 863 = .ok (.if_icmp .eq 5, 3) := by decide +kernel
theorem dL_law_866 : decode cL_law 866 = .ok (.iconst 0, 1) := by decide +kernel
theorem dL_law_867 : decode cL_law 867 = .ok (.ireturn, 1) := by decide +kernel
theorem dL_law_868 : decode cL_law 868 = .ok (.iload 5, 2) := by decide +kernel
theorem dL_law_870 : decode cL_law 870 = .ok (.ifCond .ne 15, 3) := by decide +kernel
theorem dL_law_873 : decode cL_law 873 = .ok (.aload_n 3, 1) := by decide +kernel
theorem dL_law_874 : decode cL_law 874 = .ok (.iconst 0, 1) := by decide +kernel
theorem dL_law_875 : decode cL_law 875 = .ok (.laload, 1) := by decide +kernel
theorem dL_law_876 : decode cL_law 876 = .ok (.iload 6, 2) := by decide +kernel
theorem dL_law_878 : decode cL_law 878 = .ok (.i2l, 1) := by decide +kernel
theorem dL_law_879 : decode cL_law 879 = .ok (.lcmp, 1) := by decide +kernel
theorem dL_law_880 : decode cL_law 880 = .ok (.ifCond .eq 5, 3) := by decide +kernel
theorem dL_law_883 : decode cL_law 883 = .ok (.iconst 0, 1) := by decide +kernel
theorem dL_law_884 : decode cL_law 884 = .ok (.ireturn, 1) := by decide +kernel
theorem dL_law_885 : decode cL_law 885 = .ok (.goto 1168, 3) := by decide +kernel
theorem dL_law_888 : decode cL_law 888 = .ok (.aload_n 1, 1) := by decide +kernel
theorem dL_law_889 : decode cL_law 889 = .ok (.aload_n 0, 1) := by decide +kernel
theorem dL_law_890 : decode cL_law 890 = .ok (.iload 4, 2) := by decide +kernel
theorem dL_law_892 : decode cL_law 892 = .ok (.iconst 1, 1) := by decide +kernel
theorem dL_law_893 : decode cL_law 893 = .ok (.iadd, 1) := by decide +kernel
theorem dL_law_894 : decode cL_law 894 = .ok (.iaload, 1) := by decide +kernel
theorem dL_law_895 : decode cL_law 895 = .ok (.aload_n 0, 1) := by decide +kernel
theorem dL_law_896 : decode cL_law 896 = .ok (.iload 4, 2) := by decide +kernel
theorem dL_law_898 : decode cL_law 898 = .ok (.iconst 2, 1) := by decide +kernel
theorem dL_law_899 : decode cL_law 899 = .ok (.iadd, 1) := by decide +kernel
theorem dL_law_900 : decode cL_law 900 = .ok (.iaload, 1) := by decide +kernel
theorem dL_law_901 : decode cL_law 901 = .ok (.aload_n 0, 1) := by decide +kernel
theorem dL_law_902 : decode cL_law 902 = .ok (.iload 4, 2) := by decide +kernel
theorem dL_law_904 : decode cL_law 904 = .ok (.iconst 3, 1) := by decide +kernel
theorem dL_law_905 : decode cL_law 905 = .ok (.iadd, 1) := by decide +kernel
theorem dL_law_906 : decode cL_law 906 = .ok (.iaload, 1) := by decide +kernel
theorem dL_law_907 : decode cL_law 907 = .ok (.aload_n 0, 1) := by decide +kernel
theorem dL_law_908 : decode cL_law 908 = .ok (.iload 4, 2) := by decide +kernel
theorem dL_law_910 : decode cL_law 910 = .ok (.iconst 4, 1) := by decide +kernel
theorem dL_law_911 : decode cL_law 911 = .ok (.iadd, 1) := by decide +kernel
theorem dL_law_912 : decode cL_law 912 = .ok (.iaload, 1) := by decide +kernel
theorem dL_law_913 : decode cL_law 913 = .ok (.aload_n 3, 1) := by decide +kernel
theorem dL_law_914 : decode cL_law 914 = .ok (.invokestatic 141, 3) := by decide +kernel
theorem dL_law_917 : decode cL_law 917 = .ok (.istore 5, 2) := by decide +kernel
theorem dL_law_919 : decode cL_law 919 = .ok (.aload_n 2, 1) := by decide +kernel
theorem dL_law_920 : decode cL_law 920 = .ok (.aload_n 0, 1) := by decide +kernel
theorem dL_law_921 : decode cL_law 921 = .ok (.iload 4, 2) := by decide +kernel
theorem dL_law_923 : decode cL_law 923 = .ok (.iconst 1, 1) := by decide +kernel
theorem dL_law_924 : decode cL_law 924 = .ok (.iadd, 1) := by decide +kernel
theorem dL_law_925 : decode cL_law 925 = .ok (.iaload, 1) := by decide +kernel
theorem dL_law_926 : decode cL_law 926 = .ok (.aload_n 0, 1) := by decide +kernel
theorem dL_law_927 : decode cL_law 927 = .ok (.iload 4, 2) := by decide +kernel
theorem dL_law_929 : decode cL_law 929 = .ok (.iconst 2, 1) := by decide +kernel
theorem dL_law_930 : decode cL_law 930 = .ok (.iadd, 1) := by decide +kernel
theorem dL_law_931 : decode cL_law 931 = .ok (.iaload, 1) := by decide +kernel
theorem dL_law_932 : decode cL_law 932 = .ok (.aload_n 0, 1) := by decide +kernel
theorem dL_law_933 : decode cL_law 933 = .ok (.iload 4, 2) := by decide +kernel
theorem dL_law_935 : decode cL_law 935 = .ok (.iconst 3, 1) := by decide +kernel
theorem dL_law_936 : decode cL_law 936 = .ok (.iadd, 1) := by decide +kernel
theorem dL_law_937 : decode cL_law 937 = .ok (.iaload, 1) := by decide +kernel
theorem dL_law_938 : decode cL_law 938 = .ok (.aload_n 0, 1) := by decide +kernel
theorem dL_law_939 : decode cL_law 939 = .ok (.iload 4, 2) := by decide +kernel
theorem dL_law_941 : decode cL_law 941 = .ok (.iconst 4, 1) := by decide +kernel
theorem dL_law_942 : decode cL_law 942 = .ok (.iadd, 1) := by decide +kernel
theorem dL_law_943 : decode cL_law 943 = .ok (.iaload, 1) := by decide +kernel
theorem dL_law_944 : decode cL_law 944 = .ok (.invokevirtual 143, 3) := by decide +kernel
theorem dL_law_947 : decode cL_law 947 = .ok (.istore 6, 2) := by decide +kernel
theorem dL_law_949 : decode cL_law 949 = .ok (.aload_n 2, 1) := by decide +kernel
theorem dL_law_950 : decode cL_law 950 = .ok (.invokevirtual 105, 3) := by decide +kernel
theorem dL_law_953 : decode cL_law 953 = .ok (.iload 5, 2) := by decide +kernel
theorem dL_law_955 : decode cL_law 955 = .ok (.if_icmp .eq 5, 3) := by decide +kernel
theorem dL_law_958 : decode cL_law 958 = .ok (.iconst 0, 1) := by decide +kernel
theorem dL_law_959 : decode cL_law 959 = .ok (.ireturn, 1) := by decide +kernel
theorem dL_law_960 : decode cL_law 960 = .ok (.iload 5, 2) := by decide +kernel
theorem dL_law_962 : decode cL_law 962 = .ok (.ifCond .ne 15, 3) := by decide +kernel
theorem dL_law_965 : decode cL_law 965 = .ok (.aload_n 3, 1) := by decide +kernel
theorem dL_law_966 : decode cL_law 966 = .ok (.iconst 0, 1) := by decide +kernel
theorem dL_law_967 : decode cL_law 967 = .ok (.laload, 1) := by decide +kernel
theorem dL_law_968 : decode cL_law 968 = .ok (.iload 6, 2) := by decide +kernel
theorem dL_law_970 : decode cL_law 970 = .ok (.i2l, 1) := by decide +kernel
theorem dL_law_971 : decode cL_law 971 = .ok (.lcmp, 1) := by decide +kernel
theorem dL_law_972 : decode cL_law 972 = .ok (.ifCond .eq 5, 3) := by decide +kernel
theorem dL_law_975 : decode cL_law 975 = .ok (.iconst 0, 1) := by decide +kernel
theorem dL_law_976 : decode cL_law 976 = .ok (.ireturn, 1) := by decide +kernel
theorem dL_law_977 : decode cL_law 977 = .ok (.goto 1076, 3) := by decide +kernel
theorem dL_law_980 : decode cL_law 980 = .ok (.aload_n 1, 1) := by decide +kernel
theorem dL_law_981 : decode cL_law 981 = .ok (.aload_n 0, 1) := by decide +kernel
theorem dL_law_982 : decode cL_law 982 = .ok (.iload 4, 2) := by decide +kernel
theorem dL_law_984 : decode cL_law 984 = .ok (.iconst 1, 1) := by decide +kernel
theorem dL_law_985 : decode cL_law 985 = .ok (.iadd, 1) := by decide +kernel
theorem dL_law_986 : decode cL_law 986 = .ok (.iaload, 1) := by decide +kernel
theorem dL_law_987 : decode cL_law 987 = .ok (.aload_n 0, 1) := by decide +kernel
theorem dL_law_988 : decode cL_law 988 = .ok (.iload 4, 2) := by decide +kernel
theorem dL_law_990 : decode cL_law 990 = .ok (.iconst 2, 1) := by decide +kernel
theorem dL_law_991 : decode cL_law 991 = .ok (.iadd, 1) := by decide +kernel
theorem dL_law_992 : decode cL_law 992 = .ok (.iaload, 1) := by decide +kernel
theorem dL_law_993 : decode cL_law 993 = .ok (.aload_n 3, 1) := by decide +kernel
theorem dL_law_994 : decode cL_law 994 = .ok (.invokestatic 144, 3) := by decide +kernel
theorem dL_law_997 : decode cL_law 997 = .ok (.istore 5, 2) := by decide +kernel
theorem dL_law_999 : decode cL_law 999 = .ok (.aload_n 2, 1) := by decide +kernel
theorem dL_law_1000 : decode cL_law 1000 = .ok (.aload_n 0, 1) := by decide +kernel
theorem dL_law_1001 : decode cL_law 1001 = .ok (.iload 4, 2) := by decide +kernel
theorem dL_law_1003 : decode cL_law 1003 = .ok (.iconst 1, 1) := by decide +kernel
theorem dL_law_1004 : decode cL_law 1004 = .ok (.iadd, 1) := by decide +kernel
theorem dL_law_1005 : decode cL_law 1005 = .ok (.iaload, 1) := by decide +kernel
theorem dL_law_1006 : decode cL_law 1006 = .ok (.aload_n 0, 1) := by decide +kernel
theorem dL_law_1007 : decode cL_law 1007 = .ok (.iload 4, 2) := by decide +kernel
theorem dL_law_1009 : decode cL_law 1009 = .ok (.iconst 2, 1) := by decide +kernel
theorem dL_law_1010 : decode cL_law 1010 = .ok (.iadd, 1) := by decide +kernel
theorem dL_law_1011 : decode cL_law 1011 = .ok (.iaload, 1) := by decide +kernel
theorem dL_law_1012 : decode cL_law 1012 = .ok (.invokevirtual 146, 3) := by decide +kernel
theorem dL_law_1015 : decode cL_law 1015 = .ok (.istore 6, 2) := by decide +kernel
theorem dL_law_1017 : decode cL_law 1017 = .ok (.aload_n 2, 1) := by decide +kernel
theorem dL_law_1018 : decode cL_law 1018 = .ok (.invokevirtual 105, 3) := by decide +kernel
theorem dL_law_1021 : decode cL_law 1021 = .ok (.iload 5, 2) := by decide +kernel
theorem dL_law_1023 : decode cL_law 1023 = .ok (.if_icmp .eq 5, 3) := by decide +kernel
theorem dL_law_1026 : decode cL_law 1026 = .ok (.iconst 0, 1) := by decide +kernel
theorem dL_law_1027 : decode cL_law 1027 = .ok (.ireturn, 1) := by decide +kernel
theorem dL_law_1028 : decode cL_law 1028 = .ok (.iload 5, 2) := by decide +kernel
theorem dL_law_1030 : decode cL_law 1030 = .ok (.ifCond .ne 15, 3) := by decide +kernel
theorem dL_law_1033 : decode cL_law 1033 = .ok (.aload_n 3, 1) := by decide +kernel
theorem dL_law_1034 : decode cL_law 1034 = .ok (.iconst 0, 1) := by decide +kernel
theorem dL_law_1035 : decode cL_law 1035 = .ok (.laload, 1) := by decide +kernel
theorem dL_law_1036 : decode cL_law 1036 = .ok (.iload 6, 2) := by decide +kernel
theorem dL_law_1038 : decode cL_law 1038 = .ok (.i2l, 1) := by decide +kernel
theorem dL_law_1039 : decode cL_law 1039 = .ok (.lcmp, 1) := by decide +kernel
theorem dL_law_1040 : decode cL_law 1040 = .ok (.ifCond .eq 5, 3) := by decide +kernel
theorem dL_law_1043 : decode cL_law 1043 = .ok (.iconst 0, 1) := by decide +kernel
theorem dL_law_1044 : decode cL_law 1044 = .ok (.ireturn, 1) := by decide +kernel
theorem dL_law_1045 : decode cL_law 1045 = .ok (.goto 1008, 3) := by decide +kernel
theorem dL_law_1048 : decode cL_law 1048 = .ok (.aload_n 1, 1) := by decide +kernel
theorem dL_law_1049 : decode cL_law 1049 = .ok (.aload_n 0, 1) := by decide +kernel
theorem dL_law_1050 : decode cL_law 1050 = .ok (.iload 4, 2) := by decide +kernel
theorem dL_law_1052 : decode cL_law 1052 = .ok (.iconst 1, 1) := by decide +kernel
theorem dL_law_1053 : decode cL_law 1053 = .ok (.iadd, 1) := by decide +kernel
theorem dL_law_1054 : decode cL_law 1054 = .ok (.iaload, 1) := by decide +kernel
theorem dL_law_1055 : decode cL_law 1055 = .ok (.aload_n 3, 1) := by decide +kernel
theorem dL_law_1056 : decode cL_law 1056 = .ok (.invokestatic 147, 3) := by decide +kernel
theorem dL_law_1059 : decode cL_law 1059 = .ok (.istore 5, 2) := by decide +kernel
theorem dL_law_1061 : decode cL_law 1061 = .ok (.aload_n 2, 1) := by decide +kernel
theorem dL_law_1062 : decode cL_law 1062 = .ok (.aload_n 0, 1) := by decide +kernel
theorem dL_law_1063 : decode cL_law 1063 = .ok (.iload 4, 2) := by decide +kernel
theorem dL_law_1065 : decode cL_law 1065 = .ok (.iconst 1, 1) := by decide +kernel
theorem dL_law_1066 : decode cL_law 1066 = .ok (.iadd, 1) := by decide +kernel
theorem dL_law_1067 : decode cL_law 1067 = .ok (.iaload, 1) := by decide +kernel
theorem dL_law_1068 : decode cL_law 1068 = .ok (.invokevirtual 149, 3) := by decide +kernel
theorem dL_law_1071 : decode cL_law 1071 = .ok (.istore 6, 2) := by decide +kernel
theorem dL_law_1073 : decode cL_law 1073 = .ok (.aload_n 2, 1) := by decide +kernel
theorem dL_law_1074 : decode cL_law 1074 = .ok (.invokevirtual 105, 3) := by decide +kernel
theorem dL_law_1077 : decode cL_law 1077 = .ok (.iload 5, 2) := by decide +kernel
theorem dL_law_1079 : decode cL_law 1079 = .ok (.if_icmp .eq 5, 3) := by decide +kernel
theorem dL_law_1082 : decode cL_law 1082 = .ok (.iconst 0, 1) := by decide +kernel
theorem dL_law_1083 : decode cL_law 1083 = .ok (.ireturn, 1) := by decide +kernel
theorem dL_law_1084 : decode cL_law 1084 = .ok (.iload 5, 2) := by decide +kernel
theorem dL_law_1086 : decode cL_law 1086 = .ok (.ifCond .ne 15, 3) := by decide +kernel
theorem dL_law_1089 : decode cL_law 1089 = .ok (.aload_n 3, 1) := by decide +kernel
theorem dL_law_1090 : decode cL_law 1090 = .ok (.iconst 0, 1) := by decide +kernel
theorem dL_law_1091 : decode cL_law 1091 = .ok (.laload, 1) := by decide +kernel
theorem dL_law_1092 : decode cL_law 1092 = .ok (.iload 6, 2) := by decide +kernel
theorem dL_law_1094 : decode cL_law 1094 = .ok (.i2l, 1) := by decide +kernel
theorem dL_law_1095 : decode cL_law 1095 = .ok (.lcmp, 1) := by decide +kernel
theorem dL_law_1096 : decode cL_law 1096 = .ok (.ifCond .eq 5, 3) := by decide +kernel
theorem dL_law_1099 : decode cL_law 1099 = .ok (.iconst 0, 1) := by decide +kernel
theorem dL_law_1100 : decode cL_law 1100 = .ok (.ireturn, 1) := by decide +kernel
theorem dL_law_1101 : decode cL_law 1101 = .ok (.goto 952, 3) := by decide +kernel
theorem dL_law_1104 : decode cL_law 1104 = .ok (.aload_n 1, 1) := by decide +kernel
theorem dL_law_1105 : decode cL_law 1105 = .ok (.aload_n 0, 1) := by decide +kernel
theorem dL_law_1106 : decode cL_law 1106 = .ok (.iload 4, 2) := by decide +kernel
theorem dL_law_1108 : decode cL_law 1108 = .ok (.iconst 1, 1) := by decide +kernel
theorem dL_law_1109 : decode cL_law 1109 = .ok (.iadd, 1) := by decide +kernel
theorem dL_law_1110 : decode cL_law 1110 = .ok (.iaload, 1) := by decide +kernel
theorem dL_law_1111 : decode cL_law 1111 = .ok (.aload_n 3, 1) := by decide +kernel
theorem dL_law_1112 : decode cL_law 1112 = .ok (.invokestatic 150, 3) := by decide +kernel
theorem dL_law_1115 : decode cL_law 1115 = .ok (.istore 5, 2) := by decide +kernel
theorem dL_law_1117 : decode cL_law 1117 = .ok (.aload_n 2, 1) := by decide +kernel
theorem dL_law_1118 : decode cL_law 1118 = .ok (.aload_n 0, 1) := by decide +kernel
theorem dL_law_1119 : decode cL_law 1119 = .ok (.iload 4, 2) := by decide +kernel
theorem dL_law_1121 : decode cL_law 1121 = .ok (.iconst 1, 1) := by decide +kernel
theorem dL_law_1122 : decode cL_law 1122 = .ok (.iadd, 1) := by decide +kernel
theorem dL_law_1123 : decode cL_law 1123 = .ok (.iaload, 1) := by decide +kernel
theorem dL_law_1124 : decode cL_law 1124 = .ok (.invokevirtual 152, 3) := by decide +kernel
theorem dL_law_1127 : decode cL_law 1127 = .ok (.istore 6, 2) := by decide +kernel
theorem dL_law_1129 : decode cL_law 1129 = .ok (.aload_n 2, 1) := by decide +kernel
theorem dL_law_1130 : decode cL_law 1130 = .ok (.invokevirtual 105, 3) := by decide +kernel
theorem dL_law_1133 : decode cL_law 1133 = .ok (.iload 5, 2) := by decide +kernel
theorem dL_law_1135 : decode cL_law 1135 = .ok (.if_icmp .eq 5, 3) := by decide +kernel
theorem dL_law_1138 : decode cL_law 1138 = .ok (.iconst 0, 1) := by decide +kernel
theorem dL_law_1139 : decode cL_law 1139 = .ok (.ireturn, 1) := by decide +kernel
theorem dL_law_1140 : decode cL_law 1140 = .ok (.iload 5, 2) := by decide +kernel
theorem dL_law_1142 : decode cL_law 1142 = .ok (.ifCond .ne 15, 3) := by decide +kernel
theorem dL_law_1145 : decode cL_law 1145 = .ok (.aload_n 3, 1) := by decide +kernel
theorem dL_law_1146 : decode cL_law 1146 = .ok (.iconst 0, 1) := by decide +kernel
theorem dL_law_1147 : decode cL_law 1147 = .ok (.laload, 1) := by decide +kernel
theorem dL_law_1148 : decode cL_law 1148 = .ok (.iload 6, 2) := by decide +kernel
theorem dL_law_1150 : decode cL_law 1150 = .ok (.i2l, 1) := by decide +kernel
theorem dL_law_1151 : decode cL_law 1151 = .ok (.lcmp, 1) := by decide +kernel
theorem dL_law_1152 : decode cL_law 1152 = .ok (.ifCond .eq 5, 3) := by decide +kernel
theorem dL_law_1155 : decode cL_law 1155 = .ok (.iconst 0, 1) := by decide +kernel
theorem dL_law_1156 : decode cL_law 1156 = .ok (.ireturn, 1) := by decide +kernel
theorem dL_law_1157 : decode cL_law 1157 = .ok (.goto 896, 3) := by decide +kernel
theorem dL_law_1160 : decode cL_law 1160 = .ok (.aload_n 1, 1) := by decide +kernel
theorem dL_law_1161 : decode cL_law 1161 = .ok (.aload_n 0, 1) := by decide +kernel
theorem dL_law_1162 : decode cL_law 1162 = .ok (.iload 4, 2) := by decide +kernel
theorem dL_law_1164 : decode cL_law 1164 = .ok (.iconst 1, 1) := by decide +kernel
theorem dL_law_1165 : decode cL_law 1165 = .ok (.iadd, 1) := by decide +kernel
theorem dL_law_1166 : decode cL_law 1166 = .ok (.iaload, 1) := by decide +kernel
theorem dL_law_1167 : decode cL_law 1167 = .ok (.aload_n 0, 1) := by decide +kernel
theorem dL_law_1168 : decode cL_law 1168 = .ok (.iload 4, 2) := by decide +kernel
theorem dL_law_1170 : decode cL_law 1170 = .ok (.iconst 2, 1) := by decide +kernel
theorem dL_law_1171 : decode cL_law 1171 = .ok (.iadd, 1) := by decide +kernel
theorem dL_law_1172 : decode cL_law 1172 = .ok (.iaload, 1) := by decide +kernel
theorem dL_law_1173 : decode cL_law 1173 = .ok (.aload_n 3, 1) := by decide +kernel
theorem dL_law_1174 : decode cL_law 1174 = .ok (.invokestatic 153, 3) := by decide +kernel
theorem dL_law_1177 : decode cL_law 1177 = .ok (.istore 5, 2) := by decide +kernel
theorem dL_law_1179 : decode cL_law 1179 = .ok (.aload_n 2, 1) := by decide +kernel
theorem dL_law_1180 : decode cL_law 1180 = .ok (.aload_n 0, 1) := by decide +kernel
theorem dL_law_1181 : decode cL_law 1181 = .ok (.iload 4, 2) := by decide +kernel
theorem dL_law_1183 : decode cL_law 1183 = .ok (.iconst 1, 1) := by decide +kernel
theorem dL_law_1184 : decode cL_law 1184 = .ok (.iadd, 1) := by decide +kernel
theorem dL_law_1185 : decode cL_law 1185 = .ok (.iaload, 1) := by decide +kernel
theorem dL_law_1186 : decode cL_law 1186 = .ok (.aload_n 0, 1) := by decide +kernel
theorem dL_law_1187 : decode cL_law 1187 = .ok (.iload 4, 2) := by decide +kernel
theorem dL_law_1189 : decode cL_law 1189 = .ok (.iconst 2, 1) := by decide +kernel
theorem dL_law_1190 : decode cL_law 1190 = .ok (.iadd, 1) := by decide +kernel
theorem dL_law_1191 : decode cL_law 1191 = .ok (.iaload, 1) := by decide +kernel
theorem dL_law_1192 : decode cL_law 1192 = .ok (.invokevirtual 155, 3) := by decide +kernel
theorem dL_law_1195 : decode cL_law 1195 = .ok (.istore 6, 2) := by decide +kernel
theorem dL_law_1197 : decode cL_law 1197 = .ok (.aload_n 2, 1) := by decide +kernel
theorem dL_law_1198 : decode cL_law 1198 = .ok (.invokevirtual 105, 3) := by decide +kernel
theorem dL_law_1201 : decode cL_law 1201 = .ok (.iload 5, 2) := by decide +kernel
theorem dL_law_1203 : decode cL_law 1203 = .ok (.if_icmp .eq 5, 3) := by decide +kernel
theorem dL_law_1206 : decode cL_law 1206 = .ok (.iconst 0, 1) := by decide +kernel
theorem dL_law_1207 : decode cL_law 1207 = .ok (.ireturn, 1) := by decide +kernel
theorem dL_law_1208 : decode cL_law 1208 = .ok (.iload 5, 2) := by decide +kernel
theorem dL_law_1210 : decode cL_law 1210 = .ok (.ifCond .ne 15, 3) := by decide +kernel
theorem dL_law_1213 : decode cL_law 1213 = .ok (.aload_n 3, 1) := by decide +kernel
theorem dL_law_1214 : decode cL_law 1214 = .ok (.iconst 0, 1) := by decide +kernel
theorem dL_law_1215 : decode cL_law 1215 = .ok (.laload, 1) := by decide +kernel
theorem dL_law_1216 : decode cL_law 1216 = .ok (.iload 6, 2) := by decide +kernel
theorem dL_law_1218 : decode cL_law 1218 = .ok (.i2l, 1) := by decide +kernel
theorem dL_law_1219 : decode cL_law 1219 = .ok (.lcmp, 1) := by decide +kernel
theorem dL_law_1220 : decode cL_law 1220 = .ok (.ifCond .eq 5, 3) := by decide +kernel
theorem dL_law_1223 : decode cL_law 1223 = .ok (.iconst 0, 1) := by decide +kernel
theorem dL_law_1224 : decode cL_law 1224 = .ok (.ireturn, 1) := by decide +kernel
theorem dL_law_1225 : decode cL_law 1225 = .ok (.goto 828, 3) := by decide +kernel
theorem dL_law_1228 : decode cL_law 1228 = .ok (.aload_n 1, 1) := by decide +kernel
theorem dL_law_1229 : decode cL_law 1229 = .ok (.aload_n 0, 1) := by decide +kernel
theorem dL_law_1230 : decode cL_law 1230 = .ok (.iload 4, 2) := by decide +kernel
theorem dL_law_1232 : decode cL_law 1232 = .ok (.iconst 1, 1) := by decide +kernel
theorem dL_law_1233 : decode cL_law 1233 = .ok (.iadd, 1) := by decide +kernel
theorem dL_law_1234 : decode cL_law 1234 = .ok (.iaload, 1) := by decide +kernel
theorem dL_law_1235 : decode cL_law 1235 = .ok (.aload_n 0, 1) := by decide +kernel
theorem dL_law_1236 : decode cL_law 1236 = .ok (.iload 4, 2) := by decide +kernel
theorem dL_law_1238 : decode cL_law 1238 = .ok (.iconst 2, 1) := by decide +kernel
theorem dL_law_1239 : decode cL_law 1239 = .ok (.iadd, 1) := by decide +kernel
theorem dL_law_1240 : decode cL_law 1240 = .ok (.iaload, 1) := by decide +kernel
theorem dL_law_1241 : decode cL_law 1241 = .ok (.aload_n 3, 1) := by decide +kernel
theorem dL_law_1242 : decode cL_law 1242 = .ok (.invokestatic 156, 3) := by decide +kernel
theorem dL_law_1245 : decode cL_law 1245 = .ok (.istore 5, 2) := by decide +kernel
theorem dL_law_1247 : decode cL_law 1247 = .ok (.aload_n 2, 1) := by decide +kernel
theorem dL_law_1248 : decode cL_law 1248 = .ok (.aload_n 0, 1) := by decide +kernel
theorem dL_law_1249 : decode cL_law 1249 = .ok (.iload 4, 2) := by decide +kernel
theorem dL_law_1251 : decode cL_law 1251 = .ok (.iconst 1, 1) := by decide +kernel
theorem dL_law_1252 : decode cL_law 1252 = .ok (.iadd, 1) := by decide +kernel
theorem dL_law_1253 : decode cL_law 1253 = .ok (.iaload, 1) := by decide +kernel
theorem dL_law_1254 : decode cL_law 1254 = .ok (.aload_n 0, 1) := by decide +kernel
theorem dL_law_1255 : decode cL_law 1255 = .ok (.iload 4, 2) := by decide +kernel
theorem dL_law_1257 : decode cL_law 1257 = .ok (.iconst 2, 1) := by decide +kernel
theorem dL_law_1258 : decode cL_law 1258 = .ok (.iadd, 1) := by decide +kernel
theorem dL_law_1259 : decode cL_law 1259 = .ok (.iaload, 1) := by decide +kernel
theorem dL_law_1260 : decode cL_law 1260 = .ok (.invokevirtual 158, 3) := by decide +kernel
theorem dL_law_1263 : decode cL_law 1263 = .ok (.istore 6, 2) := by decide +kernel
theorem dL_law_1265 : decode cL_law 1265 = .ok (.aload_n 2, 1) := by decide +kernel
theorem dL_law_1266 : decode cL_law 1266 = .ok (.invokevirtual 105, 3) := by decide +kernel
theorem dL_law_1269 : decode cL_law 1269 = .ok (.iload 5, 2) := by decide +kernel
theorem dL_law_1271 : decode cL_law 1271 = .ok (.if_icmp .eq 5, 3) := by decide +kernel
theorem dL_law_1274 : decode cL_law 1274 = .ok (.iconst 0, 1) := by decide +kernel
theorem dL_law_1275 : decode cL_law 1275 = .ok (.ireturn, 1) := by decide +kernel
theorem dL_law_1276 : decode cL_law 1276 = .ok (.iload 5, 2) := by decide +kernel
theorem dL_law_1278 : decode cL_law 1278 = .ok (.ifCond .ne 15, 3) := by decide +kernel
theorem dL_law_1281 : decode cL_law 1281 = .ok (.aload_n 3, 1) := by decide +kernel
theorem dL_law_1282 : decode cL_law 1282 = .ok (.iconst 0, 1) := by decide +kernel
theorem dL_law_1283 : decode cL_law 1283 = .ok (.laload, 1) := by decide +kernel
theorem dL_law_1284 : decode cL_law 1284 = .ok (.iload 6, 2) := by decide +kernel
theorem dL_law_1286 : decode cL_law 1286 = .ok (.i2l, 1) := by decide +kernel
theorem dL_law_1287 : decode cL_law 1287 = .ok (.lcmp, 1) := by decide +kernel
theorem dL_law_1288 : decode cL_law 1288 = .ok (.ifCond .eq 5, 3) := by decide +kernel
theorem dL_law_1291 : decode cL_law 1291 = .ok (.iconst 0, 1) := by decide +kernel
theorem dL_law_1292 : decode cL_law 1292 = .ok (.ireturn, 1) := by decide +kernel
theorem dL_law_1293 : decode cL_law 1293 = .ok (.goto 760, 3) := by decide +kernel
theorem dL_law_1296 : decode cL_law 1296 = .ok (.aload_n 1, 1) := by decide +kernel
theorem dL_law_1297 : decode cL_law 1297 = .ok (.aload_n 0, 1) := by decide +kernel
theorem dL_law_1298 : decode cL_law 1298 = .ok (.iload 4, 2) := by decide +kernel
theorem dL_law_1300 : decode cL_law 1300 = .ok (.iconst 1, 1) := by decide +kernel
theorem dL_law_1301 : decode cL_law 1301 = .ok (.iadd, 1) := by decide +kernel
theorem dL_law_1302 : decode cL_law 1302 = .ok (.iaload, 1) := by decide +kernel
theorem dL_law_1303 : decode cL_law 1303 = .ok (.aload_n 3, 1) := by decide +kernel
theorem dL_law_1304 : decode cL_law 1304 = .ok (.invokestatic 159, 3) := by decide +kernel
theorem dL_law_1307 : decode cL_law 1307 = .ok (.istore 5, 2) := by decide +kernel
theorem dL_law_1309 : decode cL_law 1309 = .ok (.aload_n 2, 1) := by decide +kernel
theorem dL_law_1310 : decode cL_law 1310 = .ok (.aload_n 0, 1) := by decide +kernel
theorem dL_law_1311 : decode cL_law 1311 = .ok (.iload 4, 2) := by decide +kernel
theorem dL_law_1313 : decode cL_law 1313 = .ok (.iconst 1, 1) := by decide +kernel
theorem dL_law_1314 : decode cL_law 1314 = .ok (.iadd, 1) := by decide +kernel
theorem dL_law_1315 : decode cL_law 1315 = .ok (.iaload, 1) := by decide +kernel
theorem dL_law_1316 : decode cL_law 1316 = .ok (.invokevirtual 161, 3) := by decide +kernel
theorem dL_law_1319 : decode cL_law 1319 = .ok (.istore 6, 2) := by decide +kernel
theorem dL_law_1321 : decode cL_law 1321 = .ok (.aload_n 2, 1) := by decide +kernel
theorem dL_law_1322 : decode cL_law 1322 = .ok (.invokevirtual 105, 3) := by decide +kernel
theorem dL_law_1325 : decode cL_law 1325 = .ok (.iload 5, 2) := by decide +kernel
theorem dL_law_1327 : decode cL_law 1327 = .ok (.if_icmp .eq 5, 3) := by decide +kernel
theorem dL_law_1330 : decode cL_law 1330 = .ok (.iconst 0, 1) := by decide +kernel
theorem dL_law_1331 : decode cL_law 1331 = .ok (.ireturn, 1) := by decide +kernel
theorem dL_law_1332 : decode cL_law 1332 = .ok (.iload 5, 2) := by decide +kernel
theorem dL_law_1334 : decode cL_law 1334 = .ok (.ifCond .ne 15, 3) := by decide +kernel
theorem dL_law_1337 : decode cL_law 1337 = .ok (.aload_n 3, 1) := by decide +kernel
theorem dL_law_1338 : decode cL_law 1338 = .ok (.iconst 0, 1) := by decide +kernel
theorem dL_law_1339 : decode cL_law 1339 = .ok (.laload, 1) := by decide +kernel
theorem dL_law_1340 : decode cL_law 1340 = .ok (.iload 6, 2) := by decide +kernel
theorem dL_law_1342 : decode cL_law 1342 = .ok (.i2l, 1) := by decide +kernel
theorem dL_law_1343 : decode cL_law 1343 = .ok (.lcmp, 1) := by decide +kernel
theorem dL_law_1344 : decode cL_law 1344 = .ok (.ifCond .eq 5, 3) := by decide +kernel
theorem dL_law_1347 : decode cL_law 1347 = .ok (.iconst 0, 1) := by decide +kernel
theorem dL_law_1348 : decode cL_law 1348 = .ok (.ireturn, 1) := by decide +kernel
theorem dL_law_1349 : decode cL_law 1349 = .ok (.goto 704, 3) := by decide +kernel
theorem dL_law_1352 : decode cL_law 1352 = .ok (.aload_n 1, 1) := by decide +kernel
theorem dL_law_1353 : decode cL_law 1353 = .ok (.aload_n 0, 1) := by decide +kernel
theorem dL_law_1354 : decode cL_law 1354 = .ok (.iload 4, 2) := by decide +kernel
theorem dL_law_1356 : decode cL_law 1356 = .ok (.iconst 1, 1) := by decide +kernel
theorem dL_law_1357 : decode cL_law 1357 = .ok (.iadd, 1) := by decide +kernel
theorem dL_law_1358 : decode cL_law 1358 = .ok (.iaload, 1) := by decide +kernel
theorem dL_law_1359 : decode cL_law 1359 = .ok (.aload_n 3, 1) := by decide +kernel
theorem dL_law_1360 : decode cL_law 1360 = .ok (.invokestatic 162, 3) := by decide +kernel
theorem dL_law_1363 : decode cL_law 1363 = .ok (.istore 5, 2) := by decide +kernel
theorem dL_law_1365 : decode cL_law 1365 = .ok (.aload_n 2, 1) := by decide +kernel
theorem dL_law_1366 : decode cL_law 1366 = .ok (.aload_n 0, 1) := by decide +kernel
theorem dL_law_1367 : decode cL_law 1367 = .ok (.iload 4, 2) := by decide +kernel
theorem dL_law_1369 : decode cL_law 1369 = .ok (.iconst 1, 1) := by decide +kernel
theorem dL_law_1370 : decode cL_law 1370 = .ok (.iadd, 1) := by decide +kernel
theorem dL_law_1371 : decode cL_law 1371 = .ok (.iaload, 1) := by decide +kernel
theorem dL_law_1372 : decode cL_law 1372 = .ok (.invokevirtual 164, 3) := by decide +kernel
theorem dL_law_1375 : decode cL_law 1375 = .ok (.istore 6, 2) := by decide +kernel
theorem dL_law_1377 : decode cL_law 1377 = .ok (.aload_n 2, 1) := by decide +kernel
theorem dL_law_1378 : decode cL_law 1378 = .ok (.invokevirtual 105, 3) := by decide +kernel
theorem dL_law_1381 : decode cL_law 1381 = .ok (.iload 5, 2) := by decide +kernel
theorem dL_law_1383 : decode cL_law 1383 = .ok (.if_icmp .eq 5, 3) := by decide +kernel
theorem dL_law_1386 : decode cL_law 1386 = .ok (.iconst 0, 1) := by decide +kernel
theorem dL_law_1387 : decode cL_law 1387 = .ok (.ireturn, 1) := by decide +kernel
theorem dL_law_1388 : decode cL_law 1388 = .ok (.iload 5, 2) := by decide +kernel
theorem dL_law_1390 : decode cL_law 1390 = .ok (.ifCond .ne 15, 3) := by decide +kernel
theorem dL_law_1393 : decode cL_law 1393 = .ok (.aload_n 3, 1) := by decide +kernel
theorem dL_law_1394 : decode cL_law 1394 = .ok (.iconst 0, 1) := by decide +kernel
theorem dL_law_1395 : decode cL_law 1395 = .ok (.laload, 1) := by decide +kernel
theorem dL_law_1396 : decode cL_law 1396 = .ok (.iload 6, 2) := by decide +kernel
theorem dL_law_1398 : decode cL_law 1398 = .ok (.i2l, 1) := by decide +kernel
theorem dL_law_1399 : decode cL_law 1399 = .ok (.lcmp, 1) := by decide +kernel
theorem dL_law_1400 : decode cL_law 1400 = .ok (.ifCond .eq 5, 3) := by decide +kernel
theorem dL_law_1403 : decode cL_law 1403 = .ok (.iconst 0, 1) := by decide +kernel
theorem dL_law_1404 : decode cL_law 1404 = .ok (.ireturn, 1) := by decide +kernel
theorem dL_law_1405 : decode cL_law 1405 = .ok (.goto 648, 3) := by decide +kernel
theorem dL_law_1408 : decode cL_law 1408 = .ok (.aload_n 1, 1) := by decide +kernel
theorem dL_law_1409 : decode cL_law 1409 = .ok (.aload_n 0, 1) := by decide +kernel
theorem dL_law_1410 : decode cL_law 1410 = .ok (.iload 4, 2) := by decide +kernel
theorem dL_law_1412 : decode cL_law 1412 = .ok (.iconst 1, 1) := by decide +kernel
theorem dL_law_1413 : decode cL_law 1413 = .ok (.iadd, 1) := by decide +kernel
theorem dL_law_1414 : decode cL_law 1414 = .ok (.iaload, 1) := by decide +kernel
theorem dL_law_1415 : decode cL_law 1415 = .ok (.aload_n 0, 1) := by decide +kernel
theorem dL_law_1416 : decode cL_law 1416 = .ok (.iload 4, 2) := by decide +kernel
theorem dL_law_1418 : decode cL_law 1418 = .ok (.iconst 2, 1) := by decide +kernel
theorem dL_law_1419 : decode cL_law 1419 = .ok (.iadd, 1) := by decide +kernel
theorem dL_law_1420 : decode cL_law 1420 = .ok (.iaload, 1) := by decide +kernel
theorem dL_law_1421 : decode cL_law 1421 = .ok (.aload_n 3, 1) := by decide +kernel
theorem dL_law_1422 : decode cL_law 1422 = .ok (.invokestatic 165, 3) := by decide +kernel
theorem dL_law_1425 : decode cL_law 1425 = .ok (.istore 5, 2) := by decide +kernel
theorem dL_law_1427 : decode cL_law 1427 = .ok (.aload_n 2, 1) := by decide +kernel
theorem dL_law_1428 : decode cL_law 1428 = .ok (.aload_n 0, 1) := by decide +kernel
theorem dL_law_1429 : decode cL_law 1429 = .ok (.iload 4, 2) := by decide +kernel
theorem dL_law_1431 : decode cL_law 1431 = .ok (.iconst 1, 1) := by decide +kernel
theorem dL_law_1432 : decode cL_law 1432 = .ok (.iadd, 1) := by decide +kernel
theorem dL_law_1433 : decode cL_law 1433 = .ok (.iaload, 1) := by decide +kernel
theorem dL_law_1434 : decode cL_law 1434 = .ok (.aload_n 0, 1) := by decide +kernel
theorem dL_law_1435 : decode cL_law 1435 = .ok (.iload 4, 2) := by decide +kernel
theorem dL_law_1437 : decode cL_law 1437 = .ok (.iconst 2, 1) := by decide +kernel
theorem dL_law_1438 : decode cL_law 1438 = .ok (.iadd, 1) := by decide +kernel
theorem dL_law_1439 : decode cL_law 1439 = .ok (.iaload, 1) := by decide +kernel
theorem dL_law_1440 : decode cL_law 1440 = .ok (.invokevirtual 167, 3) := by decide +kernel
theorem dL_law_1443 : decode cL_law 1443 = .ok (.istore 6, 2) := by decide +kernel
theorem dL_law_1445 : decode cL_law 1445 = .ok (.aload_n 2, 1) := by decide +kernel
theorem dL_law_1446 : decode cL_law 1446 = .ok (.invokevirtual 105, 3) := by decide +kernel
theorem dL_law_1449 : decode cL_law 1449 = .ok (.iload 5, 2) := by decide +kernel
theorem dL_law_1451 : decode cL_law 1451 = .ok (.if_icmp .eq 5, 3) := by decide +kernel
theorem dL_law_1454 : decode cL_law 1454 = .ok (.iconst 0, 1) := by decide +kernel
theorem dL_law_1455 : decode cL_law 1455 = .ok (.ireturn, 1) := by decide +kernel
theorem dL_law_1456 : decode cL_law 1456 = .ok (.iload 5, 2) := by decide +kernel
theorem dL_law_1458 : decode cL_law 1458 = .ok (.ifCond .ne 15, 3) := by decide +kernel
theorem dL_law_1461 : decode cL_law 1461 = .ok (.aload_n 3, 1) := by decide +kernel
theorem dL_law_1462 : decode cL_law 1462 = .ok (.iconst 0, 1) := by decide +kernel
theorem dL_law_1463 : decode cL_law 1463 = .ok (.laload, 1) := by decide +kernel
theorem dL_law_1464 : decode cL_law 1464 = .ok (.iload 6, 2) := by decide +kernel
theorem dL_law_1466 : decode cL_law 1466 = .ok (.i2l, 1) := by decide +kernel
theorem dL_law_1467 : decode cL_law 1467 = .ok (.lcmp, 1) := by decide +kernel
theorem dL_law_1468 : decode cL_law 1468 = .ok (.ifCond .eq 5, 3) := by decide +kernel
theorem dL_law_1471 : decode cL_law 1471 = .ok (.iconst 0, 1) := by decide +kernel
theorem dL_law_1472 : decode cL_law 1472 = .ok (.ireturn, 1) := by decide +kernel
theorem dL_law_1473 : decode cL_law 1473 = .ok (.goto 580, 3) := by decide +kernel
theorem dL_law_1476 : decode cL_law 1476 = .ok (.aload_n 1, 1) := by decide +kernel
theorem dL_law_1477 : decode cL_law 1477 = .ok (.aload_n 0, 1) := by decide +kernel
theorem dL_law_1478 : decode cL_law 1478 = .ok (.iload 4, 2) := by decide +kernel
theorem dL_law_1480 : decode cL_law 1480 = .ok (.iconst 1, 1) := by decide +kernel
theorem dL_law_1481 : decode cL_law 1481 = .ok (.iadd, 1) := by decide +kernel
theorem dL_law_1482 : decode cL_law 1482 = .ok (.iaload, 1) := by decide +kernel
theorem dL_law_1483 : decode cL_law 1483 = .ok (.aload_n 0, 1) := by decide +kernel
theorem dL_law_1484 : decode cL_law 1484 = .ok (.iload 4, 2) := by decide +kernel
theorem dL_law_1486 : decode cL_law 1486 = .ok (.iconst 2, 1) := by decide +kernel
theorem dL_law_1487 : decode cL_law 1487 = .ok (.iadd, 1) := by decide +kernel
theorem dL_law_1488 : decode cL_law 1488 = .ok (.iaload, 1) := by decide +kernel
theorem dL_law_1489 : decode cL_law 1489 = .ok (.aload_n 3, 1) := by decide +kernel
theorem dL_law_1490 : decode cL_law 1490 = .ok (.invokestatic 168, 3) := by decide +kernel
theorem dL_law_1493 : decode cL_law 1493 = .ok (.istore 5, 2) := by decide +kernel
theorem dL_law_1495 : decode cL_law 1495 = .ok (.aload_n 2, 1) := by decide +kernel
theorem dL_law_1496 : decode cL_law 1496 = .ok (.aload_n 0, 1) := by decide +kernel
theorem dL_law_1497 : decode cL_law 1497 = .ok (.iload 4, 2) := by decide +kernel
theorem dL_law_1499 : decode cL_law 1499 = .ok (.iconst 1, 1) := by decide +kernel
theorem dL_law_1500 : decode cL_law 1500 = .ok (.iadd, 1) := by decide +kernel
theorem dL_law_1501 : decode cL_law 1501 = .ok (.iaload, 1) := by decide +kernel
theorem dL_law_1502 : decode cL_law 1502 = .ok (.aload_n 0, 1) := by decide +kernel
theorem dL_law_1503 : decode cL_law 1503 = .ok (.iload 4, 2) := by decide +kernel
theorem dL_law_1505 : decode cL_law 1505 = .ok (.iconst 2, 1) := by decide +kernel
theorem dL_law_1506 : decode cL_law 1506 = .ok (.iadd, 1) := by decide +kernel
theorem dL_law_1507 : decode cL_law 1507 = .ok (.iaload, 1) := by decide +kernel
theorem dL_law_1508 : decode cL_law 1508 = .ok (.invokevirtual 170, 3) := by decide +kernel
theorem dL_law_1511 : decode cL_law 1511 = .ok (.istore 6, 2) := by decide +kernel
theorem dL_law_1513 : decode cL_law 1513 = .ok (.aload_n 2, 1) := by decide +kernel
theorem dL_law_1514 : decode cL_law 1514 = .ok (.invokevirtual 105, 3) := by decide +kernel
theorem dL_law_1517 : decode cL_law 1517 = .ok (.iload 5, 2) := by decide +kernel
theorem dL_law_1519 : decode cL_law 1519 = .ok (.if_icmp .eq 5, 3) := by decide +kernel
theorem dL_law_1522 : decode cL_law 1522 = .ok (.iconst 0, 1) := by decide +kernel
theorem dL_law_1523 : decode cL_law 1523 = .ok (.ireturn, 1) := by decide +kernel
theorem dL_law_1524 : decode cL_law 1524 = .ok (.iload 5, 2) := by decide +kernel
theorem dL_law_1526 : decode cL_law 1526 = .ok (.ifCond .ne 15, 3) := by decide +kernel
theorem dL_law_1529 : decode cL_law 1529 = .ok (.aload_n 3, 1) := by decide +kernel
theorem dL_law_1530 : decode cL_law 1530 = .ok (.iconst 0, 1) := by decide +kernel
theorem dL_law_1531 : decode cL_law 1531 = .ok (.laload, 1) := by decide +kernel
theorem dL_law_1532 : decode cL_law 1532 = .ok (.iload 6, 2) := by decide +kernel
theorem dL_law_1534 : decode cL_law 1534 = .ok (.i2l, 1) := by decide +kernel
theorem dL_law_1535 : decode cL_law 1535 = .ok (.lcmp, 1) := by decide +kernel
theorem dL_law_1536 : decode cL_law 1536 = .ok (.ifCond .eq 5, 3) := by decide +kernel
theorem dL_law_1539 : decode cL_law 1539 = .ok (.iconst 0, 1) := by decide +kernel
theorem dL_law_1540 : decode cL_law 1540 = .ok (.ireturn, 1) := by decide +kernel
theorem dL_law_1541 : decode cL_law 1541 = .ok (.goto 512, 3) := by decide +kernel
theorem dL_law_1544 : decode cL_law 1544 = .ok (.aload_n 1, 1) := by decide +kernel
theorem dL_law_1545 : decode cL_law 1545 = .ok (.aload_n 0, 1) := by decide +kernel
theorem dL_law_1546 : decode cL_law 1546 = .ok (.iload 4, 2) := by decide +kernel
theorem dL_law_1548 : decode cL_law 1548 = .ok (.iconst 1, 1) := by decide +kernel
theorem dL_law_1549 : decode cL_law 1549 = .ok (.iadd, 1) := by decide +kernel
theorem dL_law_1550 : decode cL_law 1550 = .ok (.iaload, 1) := by decide +kernel
theorem dL_law_1551 : decode cL_law 1551 = .ok (.aload_n 0, 1) := by decide +kernel
theorem dL_law_1552 : decode cL_law 1552 = .ok (.iload 4, 2) := by decide +kernel
theorem dL_law_1554 : decode cL_law 1554 = .ok (.iconst 2, 1) := by decide +kernel
theorem dL_law_1555 : decode cL_law 1555 = .ok (.iadd, 1) := by decide +kernel
theorem dL_law_1556 : decode cL_law 1556 = .ok (.iaload, 1) := by decide +kernel
theorem dL_law_1557 : decode cL_law 1557 = .ok (.aload_n 0, 1) := by decide +kernel
theorem dL_law_1558 : decode cL_law 1558 = .ok (.iload 4, 2) := by decide +kernel
theorem dL_law_1560 : decode cL_law 1560 = .ok (.iconst 3, 1) := by decide +kernel
theorem dL_law_1561 : decode cL_law 1561 = .ok (.iadd, 1) := by decide +kernel
theorem dL_law_1562 : decode cL_law 1562 = .ok (.iaload, 1) := by decide +kernel
theorem dL_law_1563 : decode cL_law 1563 = .ok (.aload_n 0, 1) := by decide +kernel
theorem dL_law_1564 : decode cL_law 1564 = .ok (.iload 4, 2) := by decide +kernel
theorem dL_law_1566 : decode cL_law 1566 = .ok (.iconst 4, 1) := by decide +kernel
theorem dL_law_1567 : decode cL_law 1567 = .ok (.iadd, 1) := by decide +kernel
theorem dL_law_1568 : decode cL_law 1568 = .ok (.iaload, 1) := by decide +kernel
theorem dL_law_1569 : decode cL_law 1569 = .ok (.aload_n 3, 1) := by decide +kernel
theorem dL_law_1570 : decode cL_law 1570 = .ok (.invokestatic 171, 3) := by decide +kernel
theorem dL_law_1573 : decode cL_law 1573 = .ok (.istore 5, 2) := by decide +kernel
theorem dL_law_1575 : decode cL_law 1575 = .ok (.aload_n 2, 1) := by decide +kernel
theorem dL_law_1576 : decode cL_law 1576 = .ok (.aload_n 0, 1) := by decide +kernel
theorem dL_law_1577 : decode cL_law 1577 = .ok (.iload 4, 2) := by decide +kernel
theorem dL_law_1579 : decode cL_law 1579 = .ok (.iconst 1, 1) := by decide +kernel
theorem dL_law_1580 : decode cL_law 1580 = .ok (.iadd, 1) := by decide +kernel
theorem dL_law_1581 : decode cL_law 1581 = .ok (.iaload, 1) := by decide +kernel
theorem dL_law_1582 : decode cL_law 1582 = .ok (.aload_n 0, 1) := by decide +kernel
theorem dL_law_1583 : decode cL_law 1583 = .ok (.iload 4, 2) := by decide +kernel
theorem dL_law_1585 : decode cL_law 1585 = .ok (.iconst 2, 1) := by decide +kernel
theorem dL_law_1586 : decode cL_law 1586 = .ok (.iadd, 1) := by decide +kernel
theorem dL_law_1587 : decode cL_law 1587 = .ok (.iaload, 1) := by decide +kernel
theorem dL_law_1588 : decode cL_law 1588 = .ok (.aload_n 0, 1) := by decide +kernel
theorem dL_law_1589 : decode cL_law 1589 = .ok (.iload 4, 2) := by decide +kernel
theorem dL_law_1591 : decode cL_law 1591 = .ok (.iconst 3, 1) := by decide +kernel
theorem dL_law_1592 : decode cL_law 1592 = .ok (.iadd, 1) := by decide +kernel
theorem dL_law_1593 : decode cL_law 1593 = .ok (.iaload, 1) := by decide +kernel
theorem dL_law_1594 : decode cL_law 1594 = .ok (.aload_n 0, 1) := by decide +kernel
theorem dL_law_1595 : decode cL_law 1595 = .ok (.iload 4, 2) := by decide +kernel
theorem dL_law_1597 : decode cL_law 1597 = .ok (.iconst 4, 1) := by decide +kernel
theorem dL_law_1598 : decode cL_law 1598 = .ok (.iadd, 1) := by decide +kernel
theorem dL_law_1599 : decode cL_law 1599 = .ok (.iaload, 1) := by decide +kernel
theorem dL_law_1600 : decode cL_law 1600 = .ok (.invokevirtual 173, 3) := by decide +kernel
theorem dL_law_1603 : decode cL_law 1603 = .ok (.istore 6, 2) := by decide +kernel
theorem dL_law_1605 : decode cL_law 1605 = .ok (.aload_n 2, 1) := by decide +kernel
theorem dL_law_1606 : decode cL_law 1606 = .ok (.invokevirtual 105, 3) := by decide +kernel
theorem dL_law_1609 : decode cL_law 1609 = .ok (.iload 5, 2) := by decide +kernel
theorem dL_law_1611 : decode cL_law 1611 = .ok (.if_icmp .eq 5, 3) := by decide +kernel
theorem dL_law_1614 : decode cL_law 1614 = .ok (.iconst 0, 1) := by decide +kernel
theorem dL_law_1615 : decode cL_law 1615 = .ok (.ireturn, 1) := by decide +kernel
theorem dL_law_1616 : decode cL_law 1616 = .ok (.iload 5, 2) := by decide +kernel
theorem dL_law_1618 : decode cL_law 1618 = .ok (.ifCond .ne 15, 3) := by decide +kernel
theorem dL_law_1621 : decode cL_law 1621 = .ok (.aload_n 3, 1) := by decide +kernel
theorem dL_law_1622 : decode cL_law 1622 = .ok (.iconst 0, 1) := by decide +kernel
theorem dL_law_1623 : decode cL_law 1623 = .ok (.laload, 1) := by decide +kernel
theorem dL_law_1624 : decode cL_law 1624 = .ok (.iload 6, 2) := by decide +kernel
theorem dL_law_1626 : decode cL_law 1626 = .ok (.i2l, 1) := by decide +kernel
theorem dL_law_1627 : decode cL_law 1627 = .ok (.lcmp, 1) := by decide +kernel
theorem dL_law_1628 : decode cL_law 1628 = .ok (.ifCond .eq 5, 3) := by decide +kernel
theorem dL_law_1631 : decode cL_law 1631 = .ok (.iconst 0, 1) := by decide +kernel
theorem dL_law_1632 : decode cL_law 1632 = .ok (.ireturn, 1) := by decide +kernel
theorem dL_law_1633 : decode cL_law 1633 = .ok (.goto 420, 3) := by decide +kernel
theorem dL_law_1636 : decode cL_law 1636 = .ok (.aload_n 1, 1) := by decide +kernel
theorem dL_law_1637 : decode cL_law 1637 = .ok (.aload_n 0, 1) := by decide +kernel
theorem dL_law_1638 : decode cL_law 1638 = .ok (.iload 4, 2) := by decide +kernel
theorem dL_law_1640 : decode cL_law 1640 = .ok (.iconst 1, 1) := by decide +kernel
theorem dL_law_1641 : decode cL_law 1641 = .ok (.iadd, 1) := by decide +kernel
theorem dL_law_1642 : decode cL_law 1642 = .ok (.iaload, 1) := by decide +kernel
theorem dL_law_1643 : decode cL_law 1643 = .ok (.invokevirtual 174, 3) := by decide +kernel
theorem dL_law_1646 : decode cL_law 1646 = .ok (.aload_n 2, 1) := by decide +kernel
theorem dL_law_1647 : decode cL_law 1647 = .ok (.aload_n 0, 1) := by decide +kernel
theorem dL_law_1648 : decode cL_law 1648 = .ok (.iload 4, 2) := by decide +kernel
theorem dL_law_1650 : decode cL_law 1650 = .ok (.iconst 1, 1) := by decide +kernel
theorem dL_law_1651 : decode cL_law 1651 = .ok (.iadd, 1) := by decide +kernel
theorem dL_law_1652 : decode cL_law 1652 = .ok (.iaload, 1) := by decide +kernel
theorem dL_law_1653 : decode cL_law 1653 = .ok (.invokevirtual 177, 3) := by decide +kernel
theorem dL_law_1656 : decode cL_law 1656 = .ok (.if_icmp .eq 397, 3) := by decide +kernel
theorem dL_law_1659 : decode cL_law 1659 = .ok (.iconst 0, 1) := by decide +kernel
theorem dL_law_1660 : decode cL_law 1660 = .ok (.ireturn, 1) := by decide +kernel
theorem dL_law_1661 : decode cL_law 1661 = .ok (.aload_n 1, 1) := by decide +kernel
theorem dL_law_1662 : decode cL_law 1662 = .ok (.aload_n 0, 1) := by decide +kernel
theorem dL_law_1663 : decode cL_law 1663 = .ok (.iload 4, 2) := by decide +kernel
theorem dL_law_1665 : decode cL_law 1665 = .ok (.iconst 1, 1) := by decide +kernel
theorem dL_law_1666 : decode cL_law 1666 = .ok (.iadd, 1) := by decide +kernel
theorem dL_law_1667 : decode cL_law 1667 = .ok (.iaload, 1) := by decide +kernel
theorem dL_law_1668 : decode cL_law 1668 = .ok (.aload_n 0, 1) := by decide +kernel
theorem dL_law_1669 : decode cL_law 1669 = .ok (.iload 4, 2) := by decide +kernel
theorem dL_law_1671 : decode cL_law 1671 = .ok (.iconst 2, 1) := by decide +kernel
theorem dL_law_1672 : decode cL_law 1672 = .ok (.iadd, 1) := by decide +kernel
theorem dL_law_1673 : decode cL_law 1673 = .ok (.iaload, 1) := by decide +kernel
theorem dL_law_1674 : decode cL_law 1674 = .ok (.aload_n 3, 1) := by decide +kernel
theorem dL_law_1675 : decode cL_law 1675 = .ok (.invokestatic 178, 3) := by decide +kernel
theorem dL_law_1678 : decode cL_law 1678 = .ok (.istore 5, 2) := by decide +kernel
theorem dL_law_1680 : decode cL_law 1680 = .ok (.aload_n 2, 1) := by decide +kernel
theorem dL_law_1681 : decode cL_law 1681 = .ok (.aload_n 0, 1) := by decide +kernel
theorem dL_law_1682 : decode cL_law 1682 = .ok (.iload 4, 2) := by decide +kernel
theorem dL_law_1684 : decode cL_law 1684 = .ok (.iconst 1, 1) := by decide +kernel
theorem dL_law_1685 : decode cL_law 1685 = .ok (.iadd, 1) := by decide +kernel
theorem dL_law_1686 : decode cL_law 1686 = .ok (.iaload, 1) := by decide +kernel
theorem dL_law_1687 : decode cL_law 1687 = .ok (.aload_n 0, 1) := by decide +kernel
theorem dL_law_1688 : decode cL_law 1688 = .ok (.iload 4, 2) := by decide +kernel
theorem dL_law_1690 : decode cL_law 1690 = .ok (.iconst 2, 1) := by decide +kernel
theorem dL_law_1691 : decode cL_law 1691 = .ok (.iadd, 1) := by decide +kernel
theorem dL_law_1692 : decode cL_law 1692 = .ok (.iaload, 1) := by decide +kernel
theorem dL_law_1693 : decode cL_law 1693 = .ok (.invokevirtual 180, 3) := by decide +kernel
theorem dL_law_1696 : decode cL_law 1696 = .ok (.istore 6, 2) := by decide +kernel
theorem dL_law_1698 : decode cL_law 1698 = .ok (.aload_n 2, 1) := by decide +kernel
theorem dL_law_1699 : decode cL_law 1699 = .ok (.invokevirtual 105, 3) := by decide +kernel
theorem dL_law_1702 : decode cL_law 1702 = .ok (.iload 5, 2) := by decide +kernel
theorem dL_law_1704 : decode cL_law 1704 = .ok (.if_icmp .eq 5, 3) := by decide +kernel
theorem dL_law_1707 : decode cL_law 1707 = .ok (.iconst 0, 1) := by decide +kernel
theorem dL_law_1708 : decode cL_law 1708 = .ok (.ireturn, 1) := by decide +kernel
theorem dL_law_1709 : decode cL_law 1709 = .ok (.iload 5, 2) := by decide +kernel
theorem dL_law_1711 : decode cL_law 1711 = .ok (.ifCond .ne 15, 3) := by decide +kernel
theorem dL_law_1714 : decode cL_law 1714 = .ok (.aload_n 3, 1) := by decide +kernel
theorem dL_law_1715 : decode cL_law 1715 = .ok (.iconst 0, 1) := by decide +kernel
theorem dL_law_1716 : decode cL_law 1716 = .ok (.laload, 1) := by decide +kernel
theorem dL_law_1717 : decode cL_law 1717 = .ok (.iload 6, 2) := by decide +kernel
theorem dL_law_1719 : decode cL_law 1719 = .ok (.i2l, 1) := by decide +kernel
theorem dL_law_1720 : decode cL_law 1720 = .ok (.lcmp, 1) := by decide +kernel
theorem dL_law_1721 : decode cL_law 1721 = .ok (.ifCond .eq 5, 3) := by decide +kernel
theorem dL_law_1724 : decode cL_law 1724 = .ok (.iconst 0, 1) := by decide +kernel
theorem dL_law_1725 : decode cL_law 1725 = .ok (.ireturn, 1) := by decide +kernel
theorem dL_law_1726 : decode cL_law 1726 = .ok (.goto 327, 3) := by decide +kernel
theorem dL_law_1729 : decode cL_law 1729 = .ok (.aload_n 1, 1) := by decide +kernel
theorem dL_law_1730 : decode cL_law 1730 = .ok (.aload_n 0, 1) := by decide +kernel
theorem dL_law_1731 : decode cL_law 1731 = .ok (.iload 4, 2) := by decide +kernel
theorem dL_law_1733 : decode cL_law 1733 = .ok (.iconst 1, 1) := by decide +kernel
theorem dL_law_1734 : decode cL_law 1734 = .ok (.iadd, 1) := by decide +kernel
theorem dL_law_1735 : decode cL_law 1735 = .ok (.iaload, 1) := by decide +kernel
theorem dL_law_1736 : decode cL_law 1736 = .ok (.aload_n 0, 1) := by decide +kernel
theorem dL_law_1737 : decode cL_law 1737 = .ok (.iload 4, 2) := by decide +kernel
theorem dL_law_1739 : decode cL_law 1739 = .ok (.iconst 2, 1) := by decide +kernel
theorem dL_law_1740 : decode cL_law 1740 = .ok (.iadd, 1) := by decide +kernel
theorem dL_law_1741 : decode cL_law 1741 = .ok (.iaload, 1) := by decide +kernel
theorem dL_law_1742 : decode cL_law 1742 = .ok (.aload_n 3, 1) := by decide +kernel
theorem dL_law_1743 : decode cL_law 1743 = .ok (.invokestatic 181, 3) := by decide +kernel
theorem dL_law_1746 : decode cL_law 1746 = .ok (.istore 5, 2) := by decide +kernel
theorem dL_law_1748 : decode cL_law 1748 = .ok (.aload_n 2, 1) := by decide +kernel
theorem dL_law_1749 : decode cL_law 1749 = .ok (.aload_n 0, 1) := by decide +kernel
theorem dL_law_1750 : decode cL_law 1750 = .ok (.iload 4, 2) := by decide +kernel
theorem dL_law_1752 : decode cL_law 1752 = .ok (.iconst 1, 1) := by decide +kernel
theorem dL_law_1753 : decode cL_law 1753 = .ok (.iadd, 1) := by decide +kernel
theorem dL_law_1754 : decode cL_law 1754 = .ok (.iaload, 1) := by decide +kernel
theorem dL_law_1755 : decode cL_law 1755 = .ok (.aload_n 0, 1) := by decide +kernel
theorem dL_law_1756 : decode cL_law 1756 = .ok (.iload 4, 2) := by decide +kernel
theorem dL_law_1758 : decode cL_law 1758 = .ok (.iconst 2, 1) := by decide +kernel
theorem dL_law_1759 : decode cL_law 1759 = .ok (.iadd, 1) := by decide +kernel
theorem dL_law_1760 : decode cL_law 1760 = .ok (.iaload, 1) := by decide +kernel
theorem dL_law_1761 : decode cL_law 1761 = .ok (.invokevirtual 183, 3) := by decide +kernel
theorem dL_law_1764 : decode cL_law 1764 = .ok (.istore 6, 2) := by decide +kernel
theorem dL_law_1766 : decode cL_law 1766 = .ok (.aload_n 2, 1) := by decide +kernel
theorem dL_law_1767 : decode cL_law 1767 = .ok (.invokevirtual 105, 3) := by decide +kernel
theorem dL_law_1770 : decode cL_law 1770 = .ok (.iload 5, 2) := by decide +kernel
theorem dL_law_1772 : decode cL_law 1772 = .ok (.if_icmp .eq 5, 3) := by decide +kernel
theorem dL_law_1775 : decode cL_law 1775 = .ok (.iconst 0, 1) := by decide +kernel
theorem dL_law_1776 : decode cL_law 1776 = .ok (.ireturn, 1) := by decide +kernel
theorem dL_law_1777 : decode cL_law 1777 = .ok (.iload 5, 2) := by decide +kernel
theorem dL_law_1779 : decode cL_law 1779 = .ok (.ifCond .ne 15, 3) := by decide +kernel
theorem dL_law_1782 : decode cL_law 1782 = .ok (.aload_n 3, 1) := by decide +kernel
theorem dL_law_1783 : decode cL_law 1783 = .ok (.iconst 0, 1) := by decide +kernel
theorem dL_law_1784 : decode cL_law 1784 = .ok (.laload, 1) := by decide +kernel
theorem dL_law_1785 : decode cL_law 1785 = .ok (.iload 6, 2) := by decide +kernel
theorem dL_law_1787 : decode cL_law 1787 = .ok (.i2l, 1) := by decide +kernel
theorem dL_law_1788 : decode cL_law 1788 = .ok (.lcmp, 1) := by decide +kernel
theorem dL_law_1789 : decode cL_law 1789 = .ok (.ifCond .eq 5, 3) := by decide +kernel
theorem dL_law_1792 : decode cL_law 1792 = .ok (.iconst 0, 1) := by decide +kernel
theorem dL_law_1793 : decode cL_law 1793 = .ok (.ireturn, 1) := by decide +kernel
theorem dL_law_1794 : decode cL_law 1794 = .ok (.goto 259, 3) := by decide +kernel
theorem dL_law_1797 : decode cL_law 1797 = .ok (.aload_n 1, 1) := by decide +kernel
theorem dL_law_1798 : decode cL_law 1798 = .ok (.aload_n 0, 1) := by decide +kernel
theorem dL_law_1799 : decode cL_law 1799 = .ok (.iload 4, 2) := by decide +kernel
theorem dL_law_1801 : decode cL_law 1801 = .ok (.iconst 1, 1) := by decide +kernel
theorem dL_law_1802 : decode cL_law 1802 = .ok (.iadd, 1) := by decide +kernel
theorem dL_law_1803 : decode cL_law 1803 = .ok (.iaload, 1) := by decide +kernel
theorem dL_law_1804 : decode cL_law 1804 = .ok (.aload_n 0, 1) := by decide +kernel
theorem dL_law_1805 : decode cL_law 1805 = .ok (.iload 4, 2) := by decide +kernel
theorem dL_law_1807 : decode cL_law 1807 = .ok (.iconst 2, 1) := by decide +kernel
theorem dL_law_1808 : decode cL_law 1808 = .ok (.iadd, 1) := by decide +kernel
theorem dL_law_1809 : decode cL_law 1809 = .ok (.iaload, 1) := by decide +kernel
theorem dL_law_1810 : decode cL_law 1810 = .ok (.aload_n 3, 1) := by decide +kernel
theorem dL_law_1811 : decode cL_law 1811 = .ok (.invokestatic 184, 3) := by decide +kernel
theorem dL_law_1814 : decode cL_law 1814 = .ok (.istore 5, 2) := by decide +kernel
theorem dL_law_1816 : decode cL_law 1816 = .ok (.aload_n 2, 1) := by decide +kernel
theorem dL_law_1817 : decode cL_law 1817 = .ok (.aload_n 0, 1) := by decide +kernel
theorem dL_law_1818 : decode cL_law 1818 = .ok (.iload 4, 2) := by decide +kernel
theorem dL_law_1820 : decode cL_law 1820 = .ok (.iconst 1, 1) := by decide +kernel
theorem dL_law_1821 : decode cL_law 1821 = .ok (.iadd, 1) := by decide +kernel
theorem dL_law_1822 : decode cL_law 1822 = .ok (.iaload, 1) := by decide +kernel
theorem dL_law_1823 : decode cL_law 1823 = .ok (.aload_n 0, 1) := by decide +kernel
theorem dL_law_1824 : decode cL_law 1824 = .ok (.iload 4, 2) := by decide +kernel
theorem dL_law_1826 : decode cL_law 1826 = .ok (.iconst 2, 1) := by decide +kernel
theorem dL_law_1827 : decode cL_law 1827 = .ok (.iadd, 1) := by decide +kernel
theorem dL_law_1828 : decode cL_law 1828 = .ok (.iaload, 1) := by decide +kernel
theorem dL_law_1829 : decode cL_law 1829 = .ok (.invokevirtual 186, 3) := by decide +kernel
theorem dL_law_1832 : decode cL_law 1832 = .ok (.istore 6, 2) := by decide +kernel
theorem dL_law_1834 : decode cL_law 1834 = .ok (.aload_n 2, 1) := by decide +kernel
theorem dL_law_1835 : decode cL_law 1835 = .ok (.invokevirtual 105, 3) := by decide +kernel
theorem dL_law_1838 : decode cL_law 1838 = .ok (.iload 5, 2) := by decide +kernel
theorem dL_law_1840 : decode cL_law 1840 = .ok (.if_icmp .eq 5, 3) := by decide +kernel
theorem dL_law_1843 : decode cL_law 1843 = .ok (.iconst 0, 1) := by decide +kernel
theorem dL_law_1844 : decode cL_law 1844 = .ok (.ireturn, 1) := by decide +kernel
theorem dL_law_1845 : decode cL_law 1845 = .ok (.iload 5, 2) := by decide +kernel
theorem dL_law_1847 : decode cL_law 1847 = .ok (.ifCond .ne 15, 3) := by decide +kernel
theorem dL_law_1850 : decode cL_law 1850 = .ok (.aload_n 3, 1) := by decide +kernel
theorem dL_law_1851 : decode cL_law 1851 = .ok (.iconst 0, 1) := by decide +kernel
theorem dL_law_1852 : decode cL_law 1852 = .ok (.laload, 1) := by decide +kernel
theorem dL_law_1853 : decode cL_law 1853 = .ok (.iload 6, 2) := by decide +kernel
theorem dL_law_1855 : decode cL_law 1855 = .ok (.i2l, 1) := by decide +kernel
theorem dL_law_1856 : decode cL_law 1856 = .ok (.lcmp, 1) := by decide +kernel
theorem dL_law_1857 : decode cL_law 1857 = .ok (.ifCond .eq 5, 3) := by decide +kernel
theorem dL_law_1860 : decode cL_law 1860 = .ok (.iconst 0, 1) := by decide +kernel
theorem dL_law_1861 : decode cL_law 1861 = .ok (.ireturn, 1) := by decide +kernel
theorem dL_law_1862 : decode cL_law 1862 = .ok (.goto 191, 3) := by decide +kernel
theorem dL_law_1865 : decode cL_law 1865 = .ok (.aload_n 1, 1) := by decide +kernel
theorem dL_law_1866 : decode cL_law 1866 = .ok (.aload_n 0, 1) := by decide +kernel
theorem dL_law_1867 : decode cL_law 1867 = .ok (.iload 4, 2) := by decide +kernel
theorem dL_law_1869 : decode cL_law 1869 = .ok (.iconst 1, 1) := by decide +kernel
theorem dL_law_1870 : decode cL_law 1870 = .ok (.iadd, 1) := by decide +kernel
theorem dL_law_1871 : decode cL_law 1871 = .ok (.iaload, 1) := by decide +kernel
theorem dL_law_1872 : decode cL_law 1872 = .ok (.aload_n 0, 1) := by decide +kernel
theorem dL_law_1873 : decode cL_law 1873 = .ok (.iload 4, 2) := by decide +kernel
theorem dL_law_1875 : decode cL_law 1875 = .ok (.iconst 2, 1) := by decide +kernel
theorem dL_law_1876 : decode cL_law 1876 = .ok (.iadd, 1) := by decide +kernel
theorem dL_law_1877 : decode cL_law 1877 = .ok (.iaload, 1) := by decide +kernel
theorem dL_law_1878 : decode cL_law 1878 = .ok (.aload_n 3, 1) := by decide +kernel
theorem dL_law_1879 : decode cL_law 1879 = .ok (.invokestatic 187, 3) := by decide +kernel
theorem dL_law_1882 : decode cL_law 1882 = .ok (.istore 5, 2) := by decide +kernel
theorem dL_law_1884 : decode cL_law 1884 = .ok (.aload_n 2, 1) := by decide +kernel
theorem dL_law_1885 : decode cL_law 1885 = .ok (.aload_n 0, 1) := by decide +kernel
theorem dL_law_1886 : decode cL_law 1886 = .ok (.iload 4, 2) := by decide +kernel
theorem dL_law_1888 : decode cL_law 1888 = .ok (.iconst 1, 1) := by decide +kernel
theorem dL_law_1889 : decode cL_law 1889 = .ok (.iadd, 1) := by decide +kernel
theorem dL_law_1890 : decode cL_law 1890 = .ok (.iaload, 1) := by decide +kernel
theorem dL_law_1891 : decode cL_law 1891 = .ok (.aload_n 0, 1) := by decide +kernel
theorem dL_law_1892 : decode cL_law 1892 = .ok (.iload 4, 2) := by decide +kernel
theorem dL_law_1894 : decode cL_law 1894 = .ok (.iconst 2, 1) := by decide +kernel
theorem dL_law_1895 : decode cL_law 1895 = .ok (.iadd, 1) := by decide +kernel
theorem dL_law_1896 : decode cL_law 1896 = .ok (.iaload, 1) := by decide +kernel
theorem dL_law_1897 : decode cL_law 1897 = .ok (.invokevirtual 189, 3) := by decide +kernel
theorem dL_law_1900 : decode cL_law 1900 = .ok (.istore 6, 2) := by decide +kernel
theorem dL_law_1902 : decode cL_law 1902 = .ok (.aload_n 2, 1) := by decide +kernel
theorem dL_law_1903 : decode cL_law 1903 = .ok (.invokevirtual 105, 3) := by decide +kernel
theorem dL_law_1906 : decode cL_law 1906 = .ok (.iload 5, 2) := by decide +kernel
theorem dL_law_1908 : decode cL_law 1908 = .ok (.if_icmp .eq 5, 3) := by decide +kernel
theorem dL_law_1911 : decode cL_law 1911 = .ok (.iconst 0, 1) := by decide +kernel
theorem dL_law_1912 : decode cL_law 1912 = .ok (.ireturn, 1) := by decide +kernel
theorem dL_law_1913 : decode cL_law 1913 = .ok (.iload 5, 2) := by decide +kernel
theorem dL_law_1915 : decode cL_law 1915 = .ok (.ifCond .ne 15, 3) := by decide +kernel
theorem dL_law_1918 : decode cL_law 1918 = .ok (.aload_n 3, 1) := by decide +kernel
theorem dL_law_1919 : decode cL_law 1919 = .ok (.iconst 0, 1) := by decide +kernel
theorem dL_law_1920 : decode cL_law 1920 = .ok (.laload, 1) := by decide +kernel
theorem dL_law_1921 : decode cL_law 1921 = .ok (.iload 6, 2) := by decide +kernel
theorem dL_law_1923 : decode cL_law 1923 = .ok (.i2l, 1) := by decide +kernel
theorem dL_law_1924 : decode cL_law 1924 = .ok (.lcmp, 1) := by decide +kernel
theorem dL_law_1925 : decode cL_law 1925 = .ok (.ifCond .eq 5, 3) := by decide +kernel
theorem dL_law_1928 : decode cL_law 1928 = .ok (.iconst 0, 1) := by decide +kernel
theorem dL_law_1929 : decode cL_law 1929 = .ok (.ireturn, 1) := by decide +kernel
theorem dL_law_1930 : decode cL_law 1930 = .ok (.goto 123, 3) := by decide +kernel
theorem dL_law_1933 : decode cL_law 1933 = .ok (.aload_n 1, 1) := by decide +kernel
theorem dL_law_1934 : decode cL_law 1934 = .ok (.aload_n 0, 1) := by decide +kernel
theorem dL_law_1935 : decode cL_law 1935 = .ok (.iload 4, 2) := by decide +kernel
theorem dL_law_1937 : decode cL_law 1937 = .ok (.iconst 1, 1) := by decide +kernel
theorem dL_law_1938 : decode cL_law 1938 = .ok (.iadd, 1) := by decide +kernel
theorem dL_law_1939 : decode cL_law 1939 = .ok (.iaload, 1) := by decide +kernel
theorem dL_law_1940 : decode cL_law 1940 = .ok (.aload_n 0, 1) := by decide +kernel
theorem dL_law_1941 : decode cL_law 1941 = .ok (.iload 4, 2) := by decide +kernel
theorem dL_law_1943 : decode cL_law 1943 = .ok (.iconst 2, 1) := by decide +kernel
theorem dL_law_1944 : decode cL_law 1944 = .ok (.iadd, 1) := by decide +kernel
theorem dL_law_1945 : decode cL_law 1945 = .ok (.iaload, 1) := by decide +kernel
theorem dL_law_1946 : decode cL_law 1946 = .ok (.aload_n 3, 1) := by decide +kernel
theorem dL_law_1947 : decode cL_law 1947 = .ok (.invokestatic 190, 3) := by decide +kernel
theorem dL_law_1950 : decode cL_law 1950 = .ok (.istore 5, 2) := by decide +kernel
theorem dL_law_1952 : decode cL_law 1952 = .ok (.aload_n 2, 1) := by decide +kernel
theorem dL_law_1953 : decode cL_law 1953 = .ok (.aload_n 0, 1) := by decide +kernel
theorem dL_law_1954 : decode cL_law 1954 = .ok (.iload 4, 2) := by decide +kernel
theorem dL_law_1956 : decode cL_law 1956 = .ok (.iconst 1, 1) := by decide +kernel
theorem dL_law_1957 : decode cL_law 1957 = .ok (.iadd, 1) := by decide +kernel
theorem dL_law_1958 : decode cL_law 1958 = .ok (.iaload, 1) := by decide +kernel
theorem dL_law_1959 : decode cL_law 1959 = .ok (.aload_n 0, 1) := by decide +kernel
theorem dL_law_1960 : decode cL_law 1960 = .ok (.iload 4, 2) := by decide +kernel
theorem dL_law_1962 : decode cL_law 1962 = .ok (.iconst 2, 1) := by decide +kernel
theorem dL_law_1963 : decode cL_law 1963 = .ok (.iadd, 1) := by decide +kernel
theorem dL_law_1964 : decode cL_law 1964 = .ok (.iaload, 1) := by decide +kernel
theorem dL_law_1965 : decode cL_law 1965 = .ok (.invokevirtual 192, 3) := by decide +kernel
theorem dL_law_1968 : decode cL_law 1968 = .ok (.istore 6, 2) := by decide +kernel
theorem dL_law_1970 : decode cL_law 1970 = .ok (.aload_n 2, 1) := by decide +kernel
theorem dL_law_1971 : decode cL_law 1971 = .ok (.invokevirtual 105, 3) := by decide +kernel
theorem dL_law_1974 : decode cL_law 1974 = .ok (.iload 5, 2) := by decide +kernel
theorem dL_law_1976 : decode cL_law 1976 = .ok (.if_icmp .eq 5, 3) := by decide +kernel
theorem dL_law_1979 : decode cL_law 1979 = .ok (.iconst 0, 1) := by decide +kernel
theorem dL_law_1980 : decode cL_law 1980 = .ok (.ireturn, 1) := by decide +kernel
theorem dL_law_1981 : decode cL_law 1981 = .ok (.iload 5, 2) := by decide +kernel
theorem dL_law_1983 : decode cL_law 1983 = .ok (.ifCond .ne 15, 3) := by decide +kernel
theorem dL_law_1986 : decode cL_law 1986 = .ok (.aload_n 3, 1) := by decide +kernel
theorem dL_law_1987 : decode cL_law 1987 = .ok (.iconst 0, 1) := by decide +kernel
theorem dL_law_1988 : decode cL_law 1988 = .ok (.laload, 1) := by decide +kernel
theorem dL_law_1989 : decode cL_law 1989 = .ok (.iload 6, 2) := by decide +kernel
theorem dL_law_1991 : decode cL_law 1991 = .ok (.i2l, 1) := by decide +kernel
theorem dL_law_1992 : decode cL_law 1992 = .ok (.lcmp, 1) := by decide +kernel
theorem dL_law_1993 : decode cL_law 1993 = .ok (.ifCond .eq 5, 3) := by decide +kernel
theorem dL_law_1996 : decode cL_law 1996 = .ok (.iconst 0, 1) := by decide +kernel
theorem dL_law_1997 : decode cL_law 1997 = .ok (.ireturn, 1) := by decide +kernel
theorem dL_law_1998 : decode cL_law 1998 = .ok (.goto 55, 3) := by decide +kernel
theorem dL_law_2001 : decode cL_law 2001 = .ok (.aload_n 1, 1) := by decide +kernel
theorem dL_law_2002 : decode cL_law 2002 = .ok (.aload_n 0, 1) := by decide +kernel
theorem dL_law_2003 : decode cL_law 2003 = .ok (.iload 4, 2) := by decide +kernel
theorem dL_law_2005 : decode cL_law 2005 = .ok (.iconst 1, 1) := by decide +kernel
theorem dL_law_2006 : decode cL_law 2006 = .ok (.iadd, 1) := by decide +kernel
theorem dL_law_2007 : decode cL_law 2007 = .ok (.iaload, 1) := by decide +kernel
theorem dL_law_2008 : decode cL_law 2008 = .ok (.invokevirtual 193, 3) := by decide +kernel
theorem dL_law_2011 : decode cL_law 2011 = .ok (.aload_n 2, 1) := by decide +kernel
theorem dL_law_2012 : decode cL_law 2012 = .ok (.aload_n 0, 1) := by decide +kernel
theorem dL_law_2013 : decode cL_law 2013 = .ok (.iload 4, 2) := by decide +kernel
theorem dL_law_2015 : decode cL_law 2015 = .ok (.iconst 1, 1) := by decide +kernel
theorem dL_law_2016 : decode cL_law 2016 = .ok (.iadd, 1) := by decide +kernel
theorem dL_law_2017 : decode cL_law 2017 = .ok (.iaload, 1) := by decide +kernel
theorem dL_law_2018 : decode cL_law 2018 = .ok (.invokevirtual 196, 3) := by decide +kernel
theorem dL_law_2021 : decode cL_law 2021 = .ok (.if_icmp .eq 32, 3) := by decide +kernel
theorem dL_law_2024 : decode cL_law 2024 = .ok (.iconst 0, 1) := by decide +kernel
theorem dL_law_2025 : decode cL_law 2025 = .ok (.ireturn, 1) := by decide +kernel
theorem dL_law_2026 : decode cL_law 2026 = .ok (.aload_n 1, 1) := by decide +kernel
theorem dL_law_2027 : decode cL_law 2027 = .ok (.invokevirtual 197, 3) := by decide +kernel
theorem dL_law_2030 : decode cL_law 2030 = .ok (.aload_n 2, 1) := by decide +kernel
theorem dL_law_2031 : decode cL_law 2031 = .ok (.invokevirtual 201, 3) := by decide +kernel
theorem dL_law_2034 : decode cL_law 2034 = .ok (.lcmp, 1) := by decide +kernel
theorem dL_law_2035 : decode cL_law 2035 = .ok (.ifCond .eq 18, 3) := by decide +kernel
theorem dL_law_2038 : decode cL_law 2038 = .ok (.iconst 0, 1) := by decide +kernel
theorem dL_law_2039 : decode cL_law 2039 = .ok (.ireturn, 1) := by decide +kernel
theorem dL_law_2040 : decode cL_law 2040 = .ok (.aload_n 1, 1) := by decide +kernel
theorem dL_law_2041 : decode cL_law 2041 = .ok (.invokevirtual 202, 3) := by decide +kernel
theorem dL_law_2044 : decode cL_law 2044 = .ok (.aload_n 2, 1) := by decide +kernel
theorem dL_law_2045 : decode cL_law 2045 = .ok (.invokevirtual 205, 3) := by decide +kernel
theorem dL_law_2048 : decode cL_law 2048 = .ok (.if_icmp .eq 5, 3) := by decide +kernel
theorem dL_law_2051 : decode cL_law 2051 = .ok (.iconst 0, 1) := by decide +kernel
theorem dL_law_2052 : decode cL_law 2052 = .ok (.ireturn, 1) := by decide +kernel
theorem dL_law_2053 : decode cL_law 2053 = .ok (.iinc 4 6, 3) := by decide +kernel
theorem dL_law_2056 : decode cL_law 2056 = .ok (.goto (-2033), 3) := by decide +kernel
theorem dL_law_2059 : decode cL_law 2059 = .ok (.iconst 1, 1) := by decide +kernel
theorem dL_law_2060 : decode cL_law 2060 = .ok (.ireturn, 1) := by decide +kernel

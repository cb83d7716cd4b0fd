theorem dX5_checkHour_5 : decode cX5_checkHour 5 = .ok (.ifCond .eq 12, 3) := by decide +kernel
theorem dX5_checkHour_8 : decode cX5_checkHour 8 = .ok (.aload_n 0, 1) := by decide +kernel
theorem dX5_checkHour_9 : decode cX5_checkHour 9 = .ok (.getfield 16, 3) := by decide +kernel
theorem dX5_checkHour_12 : decode cX5_checkHour 12 = .ok (.iload_n 1, 1) := by decide +kernel
theorem dX5_checkHour_13 : decode cX5_checkHour 13 = .ok (.iaload, 1) := by decide +kernel
theorem dX5_checkHour_14 : decode cX5_checkHour 14 = .ok (.goto 5, 3) := by decide +kernel
theorem dX5_checkHour_17 : decode cX5_checkHour 17 = .ok (.ldc 73, 2) := by decide +kernel
theorem dX5_checkHour_19 : decode cX5_checkHour 19 = .ok (.ireturn, 1) := by decide +kernel
set_option maxRecDepth 20000 in
theorem ggX5_wettest_X5_averageOf : GoodIn wsX5_wettest wsX5_averageOf := goodIn_r _ [7, 8, 9, 10, 11, 6, 12, 13, 14, 15, 16, 17, 18, 19, 20, 21, 22, 23, 24, 25, 26, 27, 28, 29, 30, 31, 32, 33, 34, 35, 36, 37] (by decide +kernel) (by decide +kernel)
set_option maxRecDepth 20000 in
theorem gX5_wettest_X5_averageOf : GoodIn wsX5_wettest (wsV RX5 83 RX5 yX5_averageOf wsX5_averageOf) := goodIn_app (goodIn_of _ (by decide +kernel)) ggX5_wettest_X5_averageOf
theorem dX5_wettest_0 : decode cX5_wettest 0 = .ok (.ldc 68, 2) := by decide +kernel
theorem dX5_wettest_2 : decode cX5_wettest 2 = .ok (.istore_n 1, 1) := by decide +kernel
theorem dX5_wettest_3 : decode cX5_wettest 3 = .ok (.iconst 0, 1) := by decide +kernel
theorem dX5_wettest_4 : decode cX5_wettest 4 = .ok (.istore_n 2, 1) := by decide +kernel
theorem dX5_wettest_5 : decode cX5_wettest 5 = .ok (.iload_n 2, 1) := by decide +kernel
theorem dX5_wettest_6 : decode cX5_wettest 6 = .ok (.aload_n 0, 1) := by decide +kernel
theorem dX5_wettest_7 : decode cX5_wettest 7 = .ok (.getfield 59, 3) := by decide +kernel
theorem dX5_wettest_10 : decode cX5_wettest 10 = .ok (.if_icmp .ge 34, 3) := by decide +kernel
theorem dX5_wettest_13 : decode cX5_wettest 13 = .ok (.iload_n 1, 1) := by decide +kernel
theorem dX5_wettest_14 : decode cX5_wettest 14 = .ok (.ldc 68, 2) := by decide +kernel
theorem dX5_wettest_16 : decode cX5_wettest 16 = .ok (.if_icmp .eq 16, 3) := by decide +kernel
theorem dX5_wettest_19 : decode cX5_wettest 19 = .ok (.aload_n 0, 1) := by decide +kernel
theorem dX5_wettest_20 : decode cX5_wettest 20 = .ok (.iload_n 2, 1) := by decide +kernel
theorem dX5_wettest_21 : decode cX5_wettest 21 = .ok (.invokevirtual 83, 3) := by decide +kernel
theorem dX5_wettest_24 : decode cX5_wettest 24 = .ok (.aload_n 0, 1) := by decide +kernel
theorem dX5_wettest_25 : decode cX5_wettest 25 = .ok (.iload_n 1, 1) := by decide +kernel
theorem dX5_wettest_26 : decode cX5_wettest 26 = .ok (.invokevirtual 83, 3) := by decide +kernel
theorem dX5_wettest_29 : decode cX5_wettest 29 = .ok (.if_icmp .le 7, 3) := by decide +kernel
theorem dX5_wettest_32 : decode cX5_wettest 32 = .ok (.iload_n 2, 1) := by decide +kernel
theorem dX5_wettest_33 : decode cX5_wettest 33 = .ok (.goto 4, 3) := by decide +kernel
theorem dX5_wettest_36 : decode cX5_wettest 36 = .ok (.iload_n 1, 1) := by decide +kernel
theorem dX5_wettest_37 : decode cX5_wettest 37 = .ok (.istore_n 1, 1) := by decide +kernel
theorem dX5_wettest_38 : decode cX5_wettest 38 = .ok (.iinc 2 1, 3) := by decide +kernel
theorem dX5_wettest_41 : decode cX5_wettest 41 = .ok (.goto (-36), 3) := by decide +kernel
theorem dX5_wettest_44 : decode cX5_wettest 44 = .ok (.iload_n 1, 1) := by decide +kernel
theorem dX5_wettest_45 : decode cX5_wettest 45 = .ok (.ireturn, 1) := by decide +kernel
set_option maxRecDepth 20000 in
theorem ggX5_wettestBoard_X5_wettest : GoodIn wsX5_wettestBoard wsX5_wettest := goodIn_r _ [5, 6, 7, 8, 9, 10, 4, 11, 12, 13, 14, 15, 16, 17, 18, 19, 20, 21, 22, 23, 24, 25, 26, 27, 28, 29, 30, 31, 32, 33, 34, 35, 36, 37, 38, 39, 40, 41] (by decide +kernel) (by decide +kernel)
set_option maxRecDepth 20000 in
theorem gX5_wettestBoard_X5_wettest : GoodIn wsX5_wettestBoard (wsV RX5 89 RX5 yX5_wettest wsX5_wettest) := goodIn_app (goodIn_of _ (by decide +kernel)) ggX5_wettestBoard_X5_wettest
theorem dX5_wettestBoard_0 : decode cX5_wettestBoard 0 = .ok (.aload_n 0, 1) := by decide +kernel
theorem dX5_wettestBoard_1 : decode cX5_wettestBoard 1 = .ok (.invokevirtual 89, 3) := by decide +kernel
theorem dX5_wettestBoard_4 : decode cX5_wettestBoard 4 = .ok (.ireturn, 1) := by decide +kernel
set_option maxRecDepth 20000 in
theorem ggX5_totalWater_X5_sumOf : GoodIn wsX5_totalWater wsX5_sumOf := goodIn_r _ [6, 7, 8, 9, 10, 11, 12, 13, 14, 15, 16, 17, 18, 19, 20, 21, 22, 23, 24, 25, 26, 27, 28, 29, 30, 31, 32] (by decide +kernel) (by decide +kernel)
set_option maxRecDepth 20000 in
theorem gX5_totalWater_X5_sumOf : GoodIn wsX5_totalWater (wsV RX5 79 RX5 yX5_sumOf wsX5_sumOf) := goodIn_app (goodIn_of _ (by decide +kernel)) ggX5_totalWater_X5_sumOf
theorem dX5_totalWater_0 : decode cX5_totalWater 0 = .ok (.iconst 0, 1) := by decide +kernel
theorem dX5_totalWater_1 : decode cX5_totalWater 1 = .ok (.istore_n 1, 1) := by decide +kernel
theorem dX5_totalWater_2 : decode cX5_totalWater 2 = .ok (.iconst 0, 1) := by decide +kernel
theorem dX5_totalWater_3 : decode cX5_totalWater 3 = .ok (.istore_n 2, 1) := by decide +kernel
theorem dX5_totalWater_4 : decode cX5_totalWater 4 = .ok (.iload_n 2, 1) := by decide +kernel
theorem dX5_totalWater_5 : decode cX5_totalWater 5 = .ok (.aload_n 0, 1) := by decide +kernel
theorem dX5_totalWater_6 : decode cX5_totalWater 6 = .ok (.getfield 59, 3) := by decide +kernel
theorem dX5_totalWater_9 : decode cX5_totalWater 9 = .ok (.if_icmp .ge 17, 3) := by decide +kernel
theorem dX5_totalWater_12 : decode cX5_totalWater 12 = .ok (.iload_n 1, 1) := by decide +kernel
theorem dX5_totalWater_13 : decode cX5_totalWater 13 = .ok (.aload_n 0, 1) := by decide +kernel
theorem dX5_totalWater_14 : decode cX5_totalWater 14 = .ok (.iload_n 2, 1) := by decide +kernel
theorem dX5_totalWater_15 : decode cX5_totalWater 15 = .ok (.invokevirtual 79, 3) := by decide +kernel
theorem dX5_totalWater_18 : decode cX5_totalWater 18 = .ok (.iadd, 1) := by decide +kernel
theorem dX5_totalWater_19 : decode cX5_totalWater 19 = .ok (.istore_n 1, 1) := by decide +kernel
theorem dX5_totalWater_20 : decode cX5_totalWater 20 = .ok (.iinc 2 1, 3) := by decide +kernel
theorem dX5_totalWater_23 : decode cX5_totalWater 23 = .ok (.goto (-19), 3) := by decide +kernel
theorem dX5_totalWater_26 : decode cX5_totalWater 26 = .ok (.iload_n 1, 1) := by decide +kernel
theorem dX5_totalWater_27 : decode cX5_totalWater 27 = .ok (.ireturn, 1) := by decide +kernel
set_option maxRecDepth 20000 in
theorem ggX5_meanOf_X5_averageOf : GoodIn wsX5_meanOf wsX5_averageOf := goodIn_r _ [6, 7, 8, 9, 10, 5, 11, 12, 13, 14, 15, 16, 17, 18, 19, 20, 21, 22, 23, 24, 25, 26, 27, 28, 29, 30, 31, 32, 33, 34, 35, 36] (by decide +kernel) (by decide +kernel)
set_option maxRecDepth 20000 in
theorem gX5_meanOf_X5_averageOf : GoodIn wsX5_meanOf (wsV RX5 83 RX5 yX5_averageOf wsX5_averageOf) := goodIn_app (goodIn_of _ (by decide +kernel)) ggX5_meanOf_X5_averageOf
theorem dX5_meanOf_0 : decode cX5_meanOf 0 = .ok (.iconst 0, 1) := by decide +kernel
theorem dX5_meanOf_1 : decode cX5_meanOf 1 = .ok (.istore_n 2, 1) := by decide +kernel
theorem dX5_meanOf_2 : decode cX5_meanOf 2 = .ok (.iconst 0, 1) := by decide +kernel
theorem dX5_meanOf_3 : decode cX5_meanOf 3 = .ok (.istore_n 3, 1) := by decide +kernel
theorem dX5_meanOf_4 : decode cX5_meanOf 4 = .ok (.iconst 0, 1) := by decide +kernel
theorem dX5_meanOf_5 : decode cX5_meanOf 5 = .ok (.istore 4, 2) := by decide +kernel
theorem dX5_meanOf_7 : decode cX5_meanOf 7 = .ok (.iload 4, 2) := by decide +kernel
theorem dX5_meanOf_9 : decode cX5_meanOf 9 = .ok (.aload_n 0, 1) := by decide +kernel
theorem dX5_meanOf_10 : decode cX5_meanOf 10 = .ok (.getfield 59, 3) := by decide +kernel
theorem dX5_meanOf_13 : decode cX5_meanOf 13 = .ok (.if_icmp .ge 31, 3) := by decide +kernel
theorem dX5_meanOf_16 : decode cX5_meanOf 16 = .ok (.iload_n 1, 1) := by decide +kernel
theorem dX5_meanOf_17 : decode cX5_meanOf 17 = .ok (.iload 4, 2) := by decide +kernel
theorem dX5_meanOf_19 : decode cX5_meanOf 19 = .ok (.ishr, 1) := by decide +kernel
theorem dX5_meanOf_20 : decode cX5_meanOf 20 = .ok (.iconst 1, 1) := by decide +kernel
theorem dX5_meanOf_21 : decode cX5_meanOf 21 = .ok (.iand, 1) := by decide +kernel
theorem dX5_meanOf_22 : decode cX5_meanOf 22 = .ok (.iconst 1, 1) := by decide +kernel
theorem dX5_meanOf_23 : decode cX5_meanOf 23 = .ok (.if_icmp .ne 15, 3) := by decide +kernel
theorem dX5_meanOf_26 : decode cX5_meanOf 26 = .ok (.iload_n 2, 1) := by decide +kernel
theorem dX5_meanOf_27 : decode cX5_meanOf 27 = .ok (.aload_n 0, 1) := by decide +kernel
theorem dX5_meanOf_28 : decode cX5_meanOf 28 = .ok (.iload 4, 2) := by decide +kernel
theorem dX5_meanOf_30 : decode cX5_meanOf 30 = .ok (.invokevirtual 83, 3) := by decide +kernel
theorem dX5_meanOf_33 : decode cX5_meanOf 33 = .ok (.iadd, 1) := by decide +kernel
theorem dX5_meanOf_34 : decode cX5_meanOf 34 = .ok (.istore_n 2, 1) := by decide +kernel
theorem dX5_meanOf_35 : decode cX5_meanOf 35 = .ok (.iinc 3 1, 3) := by decide +kernel
theorem dX5_meanOf_38 : decode cX5_meanOf 38 = .ok (.iinc 4 1, 3) := by decide +kernel
theorem dX5_meanOf_41 : decode cX5_meanOf 41 = .ok (.goto (-34), 3) := by decide +kernel
theorem dX5_meanOf_44 : decode cX5_meanOf 44 = .ok (.iload_n 2, 1) := by decide +kernel
theorem dX5_meanOf_45 : decode cX5_meanOf 45 = .ok (.iload_n 3, 1) := by decide +kernel
theorem dX5_meanOf_46 : decode cX5_meanOf 46 = .ok (.idiv, 1) := by decide +kernel
theorem dX5_meanOf_47 : decode cX5_meanOf 47 = .ok (.ireturn, 1) := by decide +kernel
set_option maxRecDepth 20000 in
theorem ggX5_sampleError_X5_meanOf : GoodIn wsX5_sampleError wsX5_meanOf := goodIn_r _ [7, 1, 8, 9, 10, 6, 11, 12, 13, 14, 15, 16, 17, 18, 19, 20, 21, 22, 23, 24, 25, 26, 27, 28, 29, 30, 31, 32, 33, 34, 35, 36, 37, 38, 39, 40, 41] (by decide +kernel) (by decide +kernel)
set_option maxRecDepth 20000 in
theorem gX5_sampleError_X5_meanOf : GoodIn wsX5_sampleError (wsV RX5 93 RX5 yX5_meanOf wsX5_meanOf) := goodIn_app (goodIn_of _ (by decide +kernel)) ggX5_sampleError_X5_meanOf
theorem dX5_sampleError_0 : decode cX5_sampleError 0 = .ok (.iconst 1, 1) := by decide +kernel
theorem dX5_sampleError_1 : decode cX5_sampleError 1 = .ok (.aload_n 0, 1) := by decide +kernel
theorem dX5_sampleError_2 : decode cX5_sampleError 2 = .ok (.getfield 59, 3) := by decide +kernel
theorem dX5_sampleError_5 : decode cX5_sampleError 5 = .ok (.ishl, 1) := by decide +kernel
theorem dX5_sampleError_6 : decode cX5_sampleError 6 = .ok (.iconst 1, 1) := by decide +kernel
theorem dX5_sampleError_7 : decode cX5_sampleError 7 = .ok (.isub, 1) := by decide +kernel
theorem dX5_sampleError_8 : decode cX5_sampleError 8 = .ok (.istore_n 2, 1) := by decide +kernel
theorem dX5_sampleError_9 : decode cX5_sampleError 9 = .ok (.iload_n 1, 1) := by decide +kernel
theorem dX5_sampleError_10 : decode cX5_sampleError 10 = .ok (.ifCond .eq 11, 3) := by decide +kernel
theorem dX5_sampleError_13 : decode cX5_sampleError 13 = .ok (.iload_n 1, 1) := by decide +kernel
theorem dX5_sampleError_14 : decode cX5_sampleError 14 = .ok (.iload_n 2, 1) := by decide +kernel
theorem dX5_sampleError_15 : decode cX5_sampleError 15 = .ok (.iconst (-1), 1) := by decide +kernel
theorem dX5_sampleError_16 : decode cX5_sampleError 16 = .ok (.ixor, 1) := by decide +kernel
theorem dX5_sampleError_17 : decode cX5_sampleError 17 = .ok (.iand, 1) := by decide +kernel
theorem dX5_sampleError_18 : decode cX5_sampleError 18 = .ok (.ifCond .eq 6, 3) := by decide +kernel
theorem dX5_sampleError_21 : decode cX5_sampleError 21 = .ok (.ldc 66, 2) := by decide +kernel
theorem dX5_sampleError_23 : decode cX5_sampleError 23 = .ok (.ireturn, 1) := by decide +kernel
theorem dX5_sampleError_24 : decode cX5_sampleError 24 = .ok (.aload_n 0, 1) := by decide +kernel
theorem dX5_sampleError_25 : decode cX5_sampleError 25 = .ok (.iload_n 1, 1) := by decide +kernel
theorem dX5_sampleError_26 : decode cX5_sampleError 26 = .ok (.invokevirtual 93, 3) := by decide +kernel
theorem dX5_sampleError_29 : decode cX5_sampleError 29 = .ok (.aload_n 0, 1) := by decide +kernel
theorem dX5_sampleError_30 : decode cX5_sampleError 30 = .ok (.iload_n 2, 1) := by decide +kernel
theorem dX5_sampleError_31 : decode cX5_sampleError 31 = .ok (.invokevirtual 93, 3) := by decide +kernel
theorem dX5_sampleError_34 : decode cX5_sampleError 34 = .ok (.isub, 1) := by decide +kernel
theorem dX5_sampleError_35 : decode cX5_sampleError 35 = .ok (.ireturn, 1) := by decide +kernel
set_option maxRecDepth 20000 in
theorem ggX5_setDiffusion_X5_isBetween : GoodIn wsX5_setDiffusion wsX5_isBetween := goodIn_r _ [6] (by decide +kernel) (by decide +kernel)
set_option maxRecDepth 20000 in
theorem gX5_setDiffusion_X5_isBetween : GoodIn wsX5_setDiffusion (va_wsS RX5 62 yX5_isBetween wsX5_isBetween) := goodIn_app (goodIn_of _ (by decide +kernel)) ggX5_setDiffusion_X5_isBetween
theorem dX5_setDiffusion_0 : decode cX5_setDiffusion 0 = .ok (.iload_n 1, 1) := by decide +kernel
theorem dX5_setDiffusion_1 : decode cX5_setDiffusion 1 = .ok (.iconst 1, 1) := by decide +kernel
theorem dX5_setDiffusion_2 : decode cX5_setDiffusion 2 = .ok (.sipush 250, 3) := by decide +kernel
theorem dX5_setDiffusion_5 : decode cX5_setDiffusion 5 = .ok (.invokestatic 62, 3) := by decide +kernel
theorem dX5_setDiffusion_8 : decode cX5_setDiffusion 8 = .ok (.ifCond .ne 6, 3) := by decide +kernel
theorem dX5_setDiffusion_11 : decode cX5_setDiffusion 11 = .ok (.ldc 66, 2) := by decide +kernel
theorem dX5_setDiffusion_13 : decode cX5_setDiffusion 13 = .ok (.ireturn, 1) := by decide +kernel
theorem dX5_setDiffusion_14 : decode cX5_setDiffusion 14 = .ok (.aload_n 0, 1) := by decide +kernel
theorem dX5_setDiffusion_15 : decode cX5_setDiffusion 15 = .ok (.getfield 56, 3) := by decide +kernel
theorem dX5_setDiffusion_18 : decode cX5_setDiffusion 18 = .ok (.istore_n 2, 1) := by decide +kernel
theorem dX5_setDiffusion_19 : decode cX5_setDiffusion 19 = .ok (.aload_n 0, 1) := by decide +kernel
theorem dX5_setDiffusion_20 : decode cX5_setDiffusion 20 = .ok (.iload_n 1, 1) := by decide +kernel
theorem dX5_setDiffusion_21 : decode cX5_setDiffusion 21 = .ok (.putfield 56, 3) := by decide +kernel
theorem dX5_setDiffusion_24 : decode cX5_setDiffusion 24 = .ok (.iload_n 2, 1) := by decide +kernel
theorem dX5_setDiffusion_25 : decode cX5_setDiffusion 25 = .ok (.ireturn, 1) := by decide +kernel
set_option maxRecDepth 20000 in
theorem ggX5_setSurface_X5_isBetween : GoodIn wsX5_setSurface wsX5_isBetween := goodIn_r _ [6] (by decide +kernel) (by decide +kernel)
set_option maxRecDepth 20000 in
theorem gX5_setSurface_X5_isBetween : GoodIn wsX5_setSurface (va_wsS RX5 62 yX5_isBetween wsX5_isBetween) := goodIn_app (goodIn_of _ (by decide +kernel)) ggX5_setSurface_X5_isBetween
theorem dX5_setSurface_0 : decode cX5_setSurface 0 = .ok (.iload_n 1, 1) := by decide +kernel
theorem dX5_setSurface_1 : decode cX5_setSurface 1 = .ok (.iconst 1, 1) := by decide +kernel
theorem dX5_setSurface_2 : decode cX5_setSurface 2 = .ok (.sipush 500, 3) := by decide +kernel
theorem dX5_setSurface_5 : decode cX5_setSurface 5 = .ok (.invokestatic 62, 3) := by decide +kernel
theorem dX5_setSurface_8 : decode cX5_setSurface 8 = .ok (.ifCond .ne 6, 3) := by decide +kernel
theorem dX5_setSurface_11 : decode cX5_setSurface 11 = .ok (.ldc 66, 2) := by decide +kernel
theorem dX5_setSurface_13 : decode cX5_setSurface 13 = .ok (.ireturn, 1) := by decide +kernel
theorem dX5_setSurface_14 : decode cX5_setSurface 14 = .ok (.aload_n 0, 1) := by decide +kernel
theorem dX5_setSurface_15 : decode cX5_setSurface 15 = .ok (.getfield 22, 3) := by decide +kernel
theorem dX5_setSurface_18 : decode cX5_setSurface 18 = .ok (.istore_n 2, 1) := by decide +kernel
theorem dX5_setSurface_19 : decode cX5_setSurface 19 = .ok (.aload_n 0, 1) := by decide +kernel
theorem dX5_setSurface_20 : decode cX5_setSurface 20 = .ok (.iload_n 1, 1) := by decide +kernel
theorem dX5_setSurface_21 : decode cX5_setSurface 21 = .ok (.putfield 22, 3) := by decide +kernel
theorem dX5_setSurface_24 : decode cX5_setSurface 24 = .ok (.iload_n 2, 1) := by decide +kernel
theorem dX5_setSurface_25 : decode cX5_setSurface 25 = .ok (.ireturn, 1) := by decide +kernel
set_option maxRecDepth 20000 in
theorem ggX5_setCapacity_X5_isBetween : GoodIn wsX5_setCapacity wsX5_isBetween := goodIn_r _ [6] (by decide +kernel) (by decide +kernel)
set_option maxRecDepth 20000 in
theorem gX5_setCapacity_X5_isBetween : GoodIn wsX5_setCapacity (va_wsS RX5 62 yX5_isBetween wsX5_isBetween) := goodIn_app (goodIn_of _ (by decide +kernel)) ggX5_setCapacity_X5_isBetween
theorem dX5_setCapacity_0 : decode cX5_setCapacity 0 = .ok (.iload_n 1, 1) := by decide +kernel
theorem dX5_setCapacity_1 : decode cX5_setCapacity 1 = .ok (.iconst 1, 1) := by decide +kernel
theorem dX5_setCapacity_2 : decode cX5_setCapacity 2 = .ok (.sipush 10000, 3) := by decide +kernel
theorem dX5_setCapacity_5 : decode cX5_setCapacity 5 = .ok (.invokestatic 62, 3) := by decide +kernel
theorem dX5_setCapacity_8 : decode cX5_setCapacity 8 = .ok (.ifCond .ne 6, 3) := by decide +kernel
theorem dX5_setCapacity_11 : decode cX5_setCapacity 11 = .ok (.ldc 66, 2) := by decide +kernel
theorem dX5_setCapacity_13 : decode cX5_setCapacity 13 = .ok (.ireturn, 1) := by decide +kernel
theorem dX5_setCapacity_14 : decode cX5_setCapacity 14 = .ok (.aload_n 0, 1) := by decide +kernel
theorem dX5_setCapacity_15 : decode cX5_setCapacity 15 = .ok (.getfield 26, 3) := by decide +kernel
theorem dX5_setCapacity_18 : decode cX5_setCapacity 18 = .ok (.istore_n 2, 1) := by decide +kernel
theorem dX5_setCapacity_19 : decode cX5_setCapacity 19 = .ok (.aload_n 0, 1) := by decide +kernel
theorem dX5_setCapacity_20 : decode cX5_setCapacity 20 = .ok (.iload_n 1, 1) := by decide +kernel
theorem dX5_setCapacity_21 : decode cX5_setCapacity 21 = .ok (.putfield 26, 3) := by decide +kernel
theorem dX5_setCapacity_24 : decode cX5_setCapacity 24 = .ok (.iload_n 2, 1) := by decide +kernel
theorem dX5_setCapacity_25 : decode cX5_setCapacity 25 = .ok (.ireturn, 1) := by decide +kernel
set_option maxRecDepth 20000 in
theorem ggX5_setStrainLimit_X5_isBetween : GoodIn wsX5_setStrainLimit wsX5_isBetween := goodIn_r _ [6] (by decide +kernel) (by decide +kernel)
set_option maxRecDepth 20000 in
theorem gX5_setStrainLimit_X5_isBetween : GoodIn wsX5_setStrainLimit (va_wsS RX5 62 yX5_isBetween wsX5_isBetween) := goodIn_app (goodIn_of _ (by decide +kernel)) ggX5_setStrainLimit_X5_isBetween
theorem dX5_setStrainLimit_0 : decode cX5_setStrainLimit 0 = .ok (.iload_n 1, 1) := by decide +kernel
theorem dX5_setStrainLimit_1 : decode cX5_setStrainLimit 1 = .ok (.bipush 20, 2) := by decide +kernel
theorem dX5_setStrainLimit_3 : decode cX5_setStrainLimit 3 = .ok (.sipush 900, 3) := by decide +kernel
theorem dX5_setStrainLimit_6 : decode cX5_setStrainLimit 6 = .ok (.invokestatic 62, 3) := by decide +kernel
theorem dX5_setStrainLimit_9 : decode cX5_setStrainLimit 9 = .ok (.ifCond .ne 6, 3) := by decide +kernel
theorem dX5_setStrainLimit_12 : decode cX5_setStrainLimit 12 = .ok (.ldc 66, 2) := by decide +kernel
theorem dX5_setStrainLimit_14 : decode cX5_setStrainLimit 14 = .ok (.ireturn, 1) := by decide +kernel
theorem dX5_setStrainLimit_15 : decode cX5_setStrainLimit 15 = .ok (.aload_n 0, 1) := by decide +kernel
theorem dX5_setStrainLimit_16 : decode cX5_setStrainLimit 16 = .ok (.getfield 29, 3) := by decide +kernel
theorem dX5_setStrainLimit_19 : decode cX5_setStrainLimit 19 = .ok (.istore_n 2, 1) := by decide +kernel
theorem dX5_setStrainLimit_20 : decode cX5_setStrainLimit 20 = .ok (.aload_n 0, 1) := by decide +kernel
theorem dX5_setStrainLimit_21 : decode cX5_setStrainLimit 21 = .ok (.iload_n 1, 1) := by decide +kernel
theorem dX5_setStrainLimit_22 : decode cX5_setStrainLimit 22 = .ok (.putfield 29, 3) := by decide +kernel
theorem dX5_setStrainLimit_25 : decode cX5_setStrainLimit 25 = .ok (.iload_n 2, 1) := by decide +kernel
theorem dX5_setStrainLimit_26 : decode cX5_setStrainLimit 26 = .ok (.ireturn, 1) := by decide +kernel
set_option maxRecDepth 20000 in
theorem ggX5_setHumidity_X5_isBetween : GoodIn wsX5_setHumidity wsX5_isBetween := goodIn_r _ [6] (by decide +kernel) (by decide +kernel)
set_option maxRecDepth 20000 in
theorem gX5_setHumidity_X5_isBetween : GoodIn wsX5_setHumidity (va_wsS RX5 62 yX5_isBetween wsX5_isBetween) := goodIn_app (goodIn_of _ (by decide +kernel)) ggX5_setHumidity_X5_isBetween
theorem dX5_setHumidity_0 : decode cX5_setHumidity 0 = .ok (.iload_n 1, 1) := by decide +kernel
theorem dX5_setHumidity_1 : decode cX5_setHumidity 1 = .ok (.iconst 0, 1) := by decide +kernel
theorem dX5_setHumidity_2 : decode cX5_setHumidity 2 = .ok (.sipush 300, 3) := by decide +kernel
theorem dX5_setHumidity_5 : decode cX5_setHumidity 5 = .ok (.invokestatic 62, 3) := by decide +kernel
theorem dX5_setHumidity_8 : decode cX5_setHumidity 8 = .ok (.ifCond .ne 6, 3) := by decide +kernel
theorem dX5_setHumidity_11 : decode cX5_setHumidity 11 = .ok (.ldc 66, 2) := by decide +kernel
theorem dX5_setHumidity_13 : decode cX5_setHumidity 13 = .ok (.ireturn, 1) := by decide +kernel
theorem dX5_setHumidity_14 : decode cX5_setHumidity 14 = .ok (.aload_n 0, 1) := by decide +kernel
theorem dX5_setHumidity_15 : decode cX5_setHumidity 15 = .ok (.getfield 32, 3) := by decide +kernel
theorem dX5_setHumidity_18 : decode cX5_setHumidity 18 = .ok (.istore_n 2, 1) := by decide +kernel
theorem dX5_setHumidity_19 : decode cX5_setHumidity 19 = .ok (.aload_n 0, 1) := by decide +kernel
theorem dX5_setHumidity_20 : decode cX5_setHumidity 20 = .ok (.iload_n 1, 1) := by decide +kernel
theorem dX5_setHumidity_21 : decode cX5_setHumidity 21 = .ok (.putfield 32, 3) := by decide +kernel
theorem dX5_setHumidity_24 : decode cX5_setHumidity 24 = .ok (.iload_n 2, 1) := by decide +kernel
theorem dX5_setHumidity_25 : decode cX5_setHumidity 25 = .ok (.ireturn, 1) := by decide +kernel
theorem dX5_setFan_0 : decode cX5_setFan 0 = .ok (.aload_n 0, 1) := by decide +kernel
theorem dX5_setFan_1 : decode cX5_setFan 1 = .ok (.getfield 96, 3) := by decide +kernel
theorem dX5_setFan_4 : decode cX5_setFan 4 = .ok (.iload_n 1, 1) := by decide +kernel
theorem dX5_setFan_5 : decode cX5_setFan 5 = .ok (.if_icmp .ne 7, 3) := by decide +kernel
theorem dX5_setFan_8 : decode cX5_setFan 8 = .ok (.iconst 0, 1) := by decide +kernel
theorem dX5_setFan_9 : decode cX5_setFan 9 = .ok (.goto 4, 3) := by decide +kernel
theorem dX5_setFan_12 : decode cX5_setFan 12 = .ok (.iconst 1, 1) := by decide +kernel
theorem dX5_setFan_13 : decode cX5_setFan 13 = .ok (.istore_n 2, 1) := by decide +kernel
theorem dX5_setFan_14 : decode cX5_setFan 14 = .ok (.aload_n 0, 1) := by decide +kernel
theorem dX5_setFan_15 : decode cX5_setFan 15 = .ok (.iload_n 1, 1) := by decide +kernel
theorem dX5_setFan_16 : decode cX5_setFan 16 = .ok (.putfield 96, 3) := by decide +kernel
theorem dX5_setFan_19 : decode cX5_setFan 19 = .ok (.iload_n 2, 1) := by decide +kernel
theorem dX5_setFan_20 : decode cX5_setFan 20 = .ok (.ireturn, 1) := by decide +kernel
theorem dX5_isFanReversed_0 : decode cX5_isFanReversed 0 = .ok (.aload_n 0, 1) := by decide +kernel
theorem dX5_isFanReversed_1 : decode cX5_isFanReversed 1 = .ok (.getfield 96, 3) := by decide +kernel
theorem dX5_isFanReversed_4 : decode cX5_isFanReversed 4 = .ok (.ifCond .eq 7, 3) := by decide +kernel
theorem dX5_isFanReversed_7 : decode cX5_isFanReversed 7 = .ok (.iconst 1, 1) := by decide +kernel
theorem dX5_isFanReversed_8 : decode cX5_isFanReversed 8 = .ok (.goto 4, 3) := by decide +kernel
theorem dX5_isFanReversed_11 : decode cX5_isFanReversed 11 = .ok (.iconst 0, 1) := by decide +kernel
theorem dX5_isFanReversed_12 : decode cX5_isFanReversed 12 = .ok (.ireturn, 1) := by decide +kernel
set_option maxRecDepth 20000 in
theorem ggX5_setReversalPeriod_X5_isBetween : GoodIn wsX5_setReversalPeriod wsX5_isBetween := goodIn_r _ [6] (by decide +kernel) (by decide +kernel)
set_option maxRecDepth 20000 in
theorem gX5_setReversalPeriod_X5_isBetween : GoodIn wsX5_setReversalPeriod (va_wsS RX5 62 yX5_isBetween wsX5_isBetween) := goodIn_app (goodIn_of _ (by decide +kernel)) ggX5_setReversalPeriod_X5_isBetween
theorem dX5_setReversalPeriod_0 : decode cX5_setReversalPeriod 0 = .ok (.iload_n 1, 1) := by decide +kernel
theorem dX5_setReversalPeriod_1 : decode cX5_setReversalPeriod 1 = .ok (.iconst 0, 1) := by decide +kernel
theorem dX5_setReversalPeriod_2 : decode cX5_setReversalPeriod 2 = .ok (.bipush 48, 2) := by decide +kernel
theorem dX5_setReversalPeriod_4 : decode cX5_setReversalPeriod 4 = .ok (.invokestatic 62, 3) := by decide +kernel
theorem dX5_setReversalPeriod_7 : decode cX5_setReversalPeriod 7 = .ok (.ifCond .ne 6, 3) := by decide +kernel
theorem dX5_setReversalPeriod_10 : decode cX5_setReversalPeriod 10 = .ok (.ldc 66, 2) := by decide +kernel
theorem dX5_setReversalPeriod_12 : decode cX5_setReversalPeriod 12 = .ok (.ireturn, 1) := by decide +kernel
theorem dX5_setReversalPeriod_13 : decode cX5_setReversalPeriod 13 = .ok (.aload_n 0, 1) := by decide +kernel
theorem dX5_setReversalPeriod_14 : decode cX5_setReversalPeriod 14 = .ok (.getfield 100, 3) := by decide +kernel
theorem dX5_setReversalPeriod_17 : decode cX5_setReversalPeriod 17 = .ok (.istore_n 2, 1) := by decide +kernel
theorem dX5_setReversalPeriod_18 : decode cX5_setReversalPeriod 18 = .ok (.aload_n 0, 1) := by decide +kernel
theorem dX5_setReversalPeriod_19 : decode cX5_setReversalPeriod 19 = .ok (.iload_n 1, 1) := by decide +kernel
theorem dX5_setReversalPeriod_20 : decode cX5_setReversalPeriod 20 = .ok (.putfield 100, 3) := by decide +kernel
theorem dX5_setReversalPeriod_23 : decode cX5_setReversalPeriod 23 = .ok (.iload_n 2, 1) := by decide +kernel
theorem dX5_setReversalPeriod_24 : decode cX5_setReversalPeriod 24 = .ok (.ireturn, 1) := by decide +kernel
theorem dX5_move_0 : decode cX5_move 0 = .ok (.bipush 9, 2) := by decide +kernel
theorem dX5_move_2 : decode cX5_move 2 = .ok (.iload_n 1, 1) := by decide +kernel
theorem dX5_move_3 : decode cX5_move 3 = .ok (.imul, 1) := by decide +kernel
theorem dX5_move_4 : decode cX5_move 4 = .ok (.istore 4, 2) := by decide +kernel
theorem dX5_move_6 : decode cX5_move 6 = .ok (.aload_n 0, 1) := by decide +kernel
theorem dX5_move_7 : decode cX5_move 7 = .ok (.getfield 7, 3) := by decide +kernel
theorem dX5_move_10 : decode cX5_move 10 = .ok (.iload_n 1, 1) := by decide +kernel
theorem dX5_move_11 : decode cX5_move 11 = .ok (.iaload, 1) := by decide +kernel
theorem dX5_move_12 : decode cX5_move 12 = .ok (.istore 5, 2) := by decide +kernel
theorem dX5_move_14 : decode cX5_move 14 = .ok (.aload_n 0, 1) := by decide +kernel
theorem dX5_move_15 : decode cX5_move 15 = .ok (.getfield 35, 3) := by decide +kernel
theorem dX5_move_18 : decode cX5_move 18 = .ok (.iconst 0, 1) := by decide +kernel
theorem dX5_move_19 : decode cX5_move 19 = .ok (.iload_n 2, 1) := by decide +kernel
theorem dX5_move_20 : decode cX5_move 20 = .ok (.ifCond .eq 25, 3) := by decide +kernel
theorem dX5_move_23 : decode cX5_move 23 = .ok (.aload_n 0, 1) := by decide +kernel
theorem dX5_move_24 : decode cX5_move 24 = .ok (.getfield 13, 3) := by decide +kernel
theorem dX5_move_27 : decode cX5_move 27 = .ok (.iload 4, 2) := by decide +kernel
theorem dX5_move_29 : decode cX5_move 29 = .ok (.iaload, 1) := by decide +kernel
theorem dX5_move_30 : decode cX5_move 30 = .ok (.iload_n 3, 1) := by decide +kernel
theorem dX5_move_31 : decode cX5_move 31 = .ok (.isub, 1) := by decide +kernel
theorem dX5_move_32 : decode cX5_move 32 = .ok (.aload_n 0, 1) := by decide +kernel
theorem dX5_move_33 : decode cX5_move 33 = .ok (.getfield 22, 3) := by decide +kernel
theorem dX5_move_36 : decode cX5_move 36 = .ok (.imul, 1) := by decide +kernel
theorem dX5_move_37 : decode cX5_move 37 = .ok (.sipush 1000, 3) := by decide +kernel
theorem dX5_move_40 : decode cX5_move 40 = .ok (.idiv, 1) := by decide +kernel
theorem dX5_move_41 : decode cX5_move 41 = .ok (.ineg, 1) := by decide +kernel
theorem dX5_move_42 : decode cX5_move 42 = .ok (.goto 4, 3) := by decide +kernel
theorem dX5_move_45 : decode cX5_move 45 = .ok (.iconst 0, 1) := by decide +kernel
theorem dX5_move_46 : decode cX5_move 46 = .ok (.iastore, 1) := by decide +kernel
theorem dX5_move_47 : decode cX5_move 47 = .ok (.aload_n 0, 1) := by decide +kernel
theorem dX5_move_48 : decode cX5_move 48 = .ok (.getfield 35, 3) := by decide +kernel
theorem dX5_move_51 : decode cX5_move 51 = .ok (.iload 5, 2) := by decide +kernel
theorem dX5_move_53 : decode cX5_move 53 = .ok (.iload_n 2, 1) := by decide +kernel
theorem dX5_move_54 : decode cX5_move 54 = .ok (.ifCond .eq 29, 3) := by decide +kernel
theorem dX5_move_57 : decode cX5_move 57 = .ok (.aload_n 0, 1) := by decide +kernel
theorem dX5_move_58 : decode cX5_move 58 = .ok (.getfield 13, 3) := by decide +kernel
theorem dX5_move_61 : decode cX5_move 61 = .ok (.iload 4, 2) := by decide +kernel
theorem dX5_move_63 : decode cX5_move 63 = .ok (.iload 5, 2) := by decide +kernel
theorem dX5_move_65 : decode cX5_move 65 = .ok (.iadd, 1) := by decide +kernel
theorem dX5_move_66 : decode cX5_move 66 = .ok (.iconst 1, 1) := by decide +kernel
theorem dX5_move_67 : decode cX5_move 67 = .ok (.isub, 1) := by decide +kernel
theorem dX5_move_68 : decode cX5_move 68 = .ok (.iaload, 1) := by decide +kernel
theorem dX5_move_69 : decode cX5_move 69 = .ok (.iload_n 3, 1) := by decide +kernel
theorem dX5_move_70 : decode cX5_move 70 = .ok (.isub, 1) := by decide +kernel
theorem dX5_move_71 : decode cX5_move 71 = .ok (.aload_n 0, 1) := by decide +kernel
theorem dX5_move_72 : decode cX5_move 72 = .ok (.getfield 22, 3) := by decide +kernel
theorem dX5_move_75 : decode cX5_move 75 = .ok (.imul, 1) := by decide +kernel
theorem dX5_move_76 : decode cX5_move 76 = .ok (.sipush 1000, 3) := by decide +kernel
theorem dX5_move_79 : decode cX5_move 79 = .ok (.idiv, 1) := by decide +kernel
theorem dX5_move_80 : decode cX5_move 80 = .ok (.goto 4, 3) := by decide +kernel
theorem dX5_move_83 : decode cX5_move 83 = .ok (.iconst 0, 1) := by decide +kernel
theorem dX5_move_84 : decode cX5_move 84 = .ok (.iastore, 1) := by decide +kernel
theorem dX5_move_85 : decode cX5_move 85 = .ok (.iconst 1, 1) := by decide +kernel
theorem dX5_move_86 : decode cX5_move 86 = .ok (.istore 6, 2) := by decide +kernel
theorem dX5_move_88 : decode cX5_move 88 = .ok (.iload 6, 2) := by decide +kernel
theorem dX5_move_90 : decode cX5_move 90 = .ok (.iload 5, 2) := by decide +kernel
theorem dX5_move_92 : decode cX5_move 92 = .ok (.if_icmp .ge 48, 3) := by decide +kernel
theorem dX5_move_95 : decode cX5_move 95 = .ok (.aload_n 0, 1) := by decide +kernel
theorem dX5_move_96 : decode cX5_move 96 = .ok (.getfield 35, 3) := by decide +kernel
theorem dX5_move_99 : decode cX5_move 99 = .ok (.iload 6, 2) := by decide +kernel
theorem dX5_move_101 : decode cX5_move 101 = .ok (.aload_n 0, 1) := by decide +kernel
theorem dX5_move_102 : decode cX5_move 102 = .ok (.getfield 13, 3) := by decide +kernel
theorem dX5_move_105 : decode cX5_move 105 = .ok (.iload 4, 2) := by decide +kernel
theorem dX5_move_107 : decode cX5_move 107 = .ok (.iload 6, 2) := by decide +kernel
theorem dX5_move_109 : decode cX5_move 109 = .ok (.iadd, 1) := by decide +kernel
theorem dX5_move_110 : decode cX5_move 110 = .ok (.iconst 1, 1) := by decide +kernel
theorem dX5_move_111 : decode cX5_move 111 = .ok (.isub, 1) := by decide +kernel
theorem dX5_move_112 : decode cX5_move 112 = .ok (.iaload, 1) := by decide +kernel
theorem dX5_move_113 : decode cX5_move 113 = .ok (.aload_n 0, 1) := by decide +kernel
theorem dX5_move_114 : decode cX5_move 114 = .ok (.getfield 13, 3) := by decide +kernel
theorem dX5_move_117 : decode cX5_move 117 = .ok (.iload 4, 2) := by decide +kernel
theorem dX5_move_119 : decode cX5_move 119 = .ok (.iload 6, 2) := by decide +kernel
theorem dX5_move_121 : decode cX5_move 121 = .ok (.iadd, 1) := by decide +kernel
theorem dX5_move_122 : decode cX5_move 122 = .ok (.iaload, 1) := by decide +kernel
theorem dX5_move_123 : decode cX5_move 123 = .ok (.isub, 1) := by decide +kernel
theorem dX5_move_124 : decode cX5_move 124 = .ok (.aload_n 0, 1) := by decide +kernel
theorem dX5_move_125 : decode cX5_move 125 = .ok (.getfield 56, 3) := by decide +kernel
theorem dX5_move_128 : decode cX5_move 128 = .ok (.imul, 1) := by decide +kernel
theorem dX5_move_129 : decode cX5_move 129 = .ok (.sipush 1000, 3) := by decide +kernel
theorem dX5_move_132 : decode cX5_move 132 = .ok (.idiv, 1) := by decide +kernel
theorem dX5_move_133 : decode cX5_move 133 = .ok (.iastore, 1) := by decide +kernel
theorem dX5_move_134 : decode cX5_move 134 = .ok (.iinc 6 1, 3) := by decide +kernel
theorem dX5_move_137 : decode cX5_move 137 = .ok (.goto (-49), 3) := by decide +kernel
theorem dX5_move_140 : decode cX5_move 140 = .ok (.iconst 0, 1) := by decide +kernel
theorem dX5_move_141 : decode cX5_move 141 = .ok (.istore 6, 2) := by decide +kernel
theorem dX5_move_143 : decode cX5_move 143 = .ok (.iload 6, 2) := by decide +kernel
theorem dX5_move_145 : decode cX5_move 145 = .ok (.iload 5, 2) := by decide +kernel
theorem dX5_move_147 : decode cX5_move 147 = .ok (.if_icmp .ge 39, 3) := by decide +kernel
theorem dX5_move_150 : decode cX5_move 150 = .ok (.aload_n 0, 1) := by decide +kernel
theorem dX5_move_151 : decode cX5_move 151 = .ok (.getfield 13, 3) := by decide +kernel
theorem dX5_move_154 : decode cX5_move 154 = .ok (.iload 4, 2) := by decide +kernel
theorem dX5_move_156 : decode cX5_move 156 = .ok (.iload 6, 2) := by decide +kernel
theorem dX5_move_158 : decode cX5_move 158 = .ok (.iadd, 1) := by decide +kernel
theorem dX5_move_159 : decode cX5_move 159 = .ok (.dup2, 1) := by decide +kernel
theorem dX5_move_160 : decode cX5_move 160 = .ok (.iaload, 1) := by decide +kernel
theorem dX5_move_161 : decode cX5_move 161 = .ok (.aload_n 0, 1) := by decide +kernel
theorem dX5_move_162 : decode cX5_move 162 = .ok (.getfield 35, 3) := by decide +kernel
theorem dX5_move_165 : decode cX5_move 165 = .ok (.iload 6, 2) := by decide +kernel
theorem dX5_move_167 : decode cX5_move 167 = .ok (.iaload, 1) := by decide +kernel
theorem dX5_move_168 : decode cX5_move 168 = .ok (.aload_n 0, 1) := by decide +kernel
theorem dX5_move_169 : decode cX5_move 169 = .ok (.getfield 35, 3) := by decide +kernel
theorem dX5_move_172 : decode cX5_move 172 = .ok (.iload 6, 2) := by decide +kernel
theorem dX5_move_174 : decode cX5_move 174 = .ok (.iconst 1, 1) := by decide +kernel
theorem dX5_move_175 : decode cX5_move 175 = .ok (.iadd, 1) := by decide +kernel
theorem dX5_move_176 : decode cX5_move 176 = .ok (.iaload, 1) := by decide +kernel
theorem dX5_move_177 : decode cX5_move 177 = .ok (.isub, 1) := by decide +kernel
theorem dX5_move_178 : decode cX5_move 178 = .ok (.iadd, 1) := by decide +kernel
theorem dX5_move_179 : decode cX5_move 179 = .ok (.iastore, 1) := by decide +kernel
theorem dX5_move_180 : decode cX5_move 180 = .ok (.iinc 6 1, 3) := by decide +kernel
theorem dX5_move_183 : decode cX5_move 183 = .ok (.goto (-40), 3) := by decide +kernel
theorem dX5_move_186 : decode cX5_move 186 = .ok (.aload_n 0, 1) := by decide +kernel
theorem dX5_move_187 : decode cX5_move 187 = .ok (.getfield 35, 3) := by decide +kernel
theorem dX5_move_190 : decode cX5_move 190 = .ok (.iload 5, 2) := by decide +kernel
theorem dX5_move_192 : decode cX5_move 192 = .ok (.iaload, 1) := by decide +kernel
theorem dX5_move_193 : decode cX5_move 193 = .ok (.aload_n 0, 1) := by decide +kernel
theorem dX5_move_194 : decode cX5_move 194 = .ok (.getfield 35, 3) := by decide +kernel
theorem dX5_move_197 : decode cX5_move 197 = .ok (.iconst 0, 1) := by decide +kernel
theorem dX5_move_198 : decode cX5_move 198 = .ok (.iaload, 1) := by decide +kernel
theorem dX5_move_199 : decode cX5_move 199 = .ok (.isub, 1) := by decide +kernel
theorem dX5_move_200 : decode cX5_move 200 = .ok (.ireturn, 1) := by decide +kernel
set_option maxRecDepth 20000 in
theorem ggX5_blow_X5_move : GoodIn wsX5_blow wsX5_move := goodIn_r _ [9, 10, 11, 12, 13, 14, 15, 16, 17, 18, 19, 20, 21, 22, 23, 24, 25, 26, 27, 28, 29, 30, 31, 32, 33, 34, 35, 36, 37, 38] (by decide +kernel) (by decide +kernel)
set_option maxRecDepth 20000 in
theorem gX5_blow_X5_move : GoodIn wsX5_blow (wsV RX5 103 RX5 yX5_move wsX5_move) := goodIn_app (goodIn_of _ (by decide +kernel)) ggX5_blow_X5_move
theorem dX5_blow_0 : decode cX5_blow 0 = .ok (.iconst 0, 1) := by decide +kernel
theorem dX5_blow_1 : decode cX5_blow 1 = .ok (.istore_n 2, 1) := by decide +kernel
theorem dX5_blow_2 : decode cX5_blow 2 = .ok (.iconst 0, 1) := by decide +kernel
theorem dX5_blow_3 : decode cX5_blow 3 = .ok (.istore_n 3, 1) := by decide +kernel
theorem dX5_blow_4 : decode cX5_blow 4 = .ok (.iload_n 3, 1) := by decide +kernel
theorem dX5_blow_5 : decode cX5_blow 5 = .ok (.aload_n 0, 1) := by decide +kernel
theorem dX5_blow_6 : decode cX5_blow 6 = .ok (.getfield 59, 3) := by decide +kernel
theorem dX5_blow_9 : decode cX5_blow 9 = .ok (.if_icmp .ge 74, 3) := by decide +kernel
theorem dX5_blow_12 : decode cX5_blow 12 = .ok (.aload_n 0, 1) := by decide +kernel
theorem dX5_blow_13 : decode cX5_blow 13 = .ok (.getfield 96, 3) := by decide +kernel
theorem dX5_blow_16 : decode cX5_blow 16 = .ok (.ifCond .eq 14, 3) := by decide +kernel
theorem dX5_blow_19 : decode cX5_blow 19 = .ok (.aload_n 0, 1) := by decide +kernel
theorem dX5_blow_20 : decode cX5_blow 20 = .ok (.getfield 59, 3) := by decide +kernel
theorem dX5_blow_23 : decode cX5_blow 23 = .ok (.iconst 1, 1) := by decide +kernel
theorem dX5_blow_24 : decode cX5_blow 24 = .ok (.isub, 1) := by decide +kernel
theorem dX5_blow_25 : decode cX5_blow 25 = .ok (.iload_n 3, 1) := by decide +kernel
theorem dX5_blow_26 : decode cX5_blow 26 = .ok (.isub, 1) := by decide +kernel
theorem dX5_blow_27 : decode cX5_blow 27 = .ok (.goto 4, 3) := by decide +kernel
theorem dX5_blow_30 : decode cX5_blow 30 = .ok (.iload_n 3, 1) := by decide +kernel
theorem dX5_blow_31 : decode cX5_blow 31 = .ok (.istore 4, 2) := by decide +kernel
theorem dX5_blow_33 : decode cX5_blow 33 = .ok (.iload_n 1, 1) := by decide +kernel
theorem dX5_blow_34 : decode cX5_blow 34 = .ok (.iload_n 2, 1) := by decide +kernel
theorem dX5_blow_35 : decode cX5_blow 35 = .ok (.aload_n 0, 1) := by decide +kernel
theorem dX5_blow_36 : decode cX5_blow 36 = .ok (.getfield 26, 3) := by decide +kernel
theorem dX5_blow_39 : decode cX5_blow 39 = .ok (.idiv, 1) := by decide +kernel
theorem dX5_blow_40 : decode cX5_blow 40 = .ok (.iadd, 1) := by decide +kernel
theorem dX5_blow_41 : decode cX5_blow 41 = .ok (.istore 5, 2) := by decide +kernel
theorem dX5_blow_43 : decode cX5_blow 43 = .ok (.iload 5, 2) := by decide +kernel
theorem dX5_blow_45 : decode cX5_blow 45 = .ok (.ifCond .ge 7, 3) := by decide +kernel
theorem dX5_blow_48 : decode cX5_blow 48 = .ok (.iconst 0, 1) := by decide +kernel
theorem dX5_blow_49 : decode cX5_blow 49 = .ok (.goto 5, 3) := by decide +kernel
theorem dX5_blow_52 : decode cX5_blow 52 = .ok (.iload 5, 2) := by decide +kernel
theorem dX5_blow_54 : decode cX5_blow 54 = .ok (.istore 5, 2) := by decide +kernel
theorem dX5_blow_56 : decode cX5_blow 56 = .ok (.aload_n 0, 1) := by decide +kernel
theorem dX5_blow_57 : decode cX5_blow 57 = .ok (.getfield 19, 3) := by decide +kernel
theorem dX5_blow_60 : decode cX5_blow 60 = .ok (.iload 4, 2) := by decide +kernel
theorem dX5_blow_62 : decode cX5_blow 62 = .ok (.iload 5, 2) := by decide +kernel
theorem dX5_blow_64 : decode cX5_blow 64 = .ok (.iastore, 1) := by decide +kernel
theorem dX5_blow_65 : decode cX5_blow 65 = .ok (.iload_n 2, 1) := by decide +kernel
theorem dX5_blow_66 : decode cX5_blow 66 = .ok (.aload_n 0, 1) := by decide +kernel
theorem dX5_blow_67 : decode cX5_blow 67 = .ok (.iload 4, 2) := by decide +kernel
theorem dX5_blow_69 : decode cX5_blow 69 = .ok (.iconst 1, 1) := by decide +kernel
theorem dX5_blow_70 : decode cX5_blow 70 = .ok (.iload 5, 2) := by decide +kernel
theorem dX5_blow_72 : decode cX5_blow 72 = .ok (.invokevirtual 103, 3) := by decide +kernel
theorem dX5_blow_75 : decode cX5_blow 75 = .ok (.iadd, 1) := by decide +kernel
theorem dX5_blow_76 : decode cX5_blow 76 = .ok (.istore_n 2, 1) := by decide +kernel
theorem dX5_blow_77 : decode cX5_blow 77 = .ok (.iinc 3 1, 3) := by decide +kernel
theorem dX5_blow_80 : decode cX5_blow 80 = .ok (.goto (-76), 3) := by decide +kernel
theorem dX5_blow_83 : decode cX5_blow 83 = .ok (.iload_n 2, 1) := by decide +kernel
theorem dX5_blow_84 : decode cX5_blow 84 = .ok (.ireturn, 1) := by decide +kernel
set_option maxRecDepth 20000 in
theorem ggX5_restAll_X5_move : GoodIn wsX5_restAll wsX5_move := goodIn_r _ [6, 7, 8, 9, 10, 11, 12, 13, 14, 15, 16, 17, 18, 19, 20, 21, 22, 23, 24, 25, 26, 27, 28, 29, 30, 31, 32, 33, 34, 35] (by decide +kernel) (by decide +kernel)
set_option maxRecDepth 20000 in
theorem gX5_restAll_X5_move : GoodIn wsX5_restAll (wsV RX5 103 RX5 yX5_move wsX5_move) := goodIn_app (goodIn_of _ (by decide +kernel)) ggX5_restAll_X5_move
theorem dX5_restAll_0 : decode cX5_restAll 0 = .ok (.iconst 0, 1) := by decide +kernel
theorem dX5_restAll_1 : decode cX5_restAll 1 = .ok (.istore_n 1, 1) := by decide +kernel
theorem dX5_restAll_2 : decode cX5_restAll 2 = .ok (.iload_n 1, 1) := by decide +kernel
theorem dX5_restAll_3 : decode cX5_restAll 3 = .ok (.aload_n 0, 1) := by decide +kernel
theorem dX5_restAll_4 : decode cX5_restAll 4 = .ok (.getfield 59, 3) := by decide +kernel
theorem dX5_restAll_7 : decode cX5_restAll 7 = .ok (.if_icmp .ge 17, 3) := by decide +kernel
theorem dX5_restAll_10 : decode cX5_restAll 10 = .ok (.aload_n 0, 1) := by decide +kernel
theorem dX5_restAll_11 : decode cX5_restAll 11 = .ok (.iload_n 1, 1) := by decide +kernel
theorem dX5_restAll_12 : decode cX5_restAll 12 = .ok (.iconst 0, 1) := by decide +kernel
theorem dX5_restAll_13 : decode cX5_restAll 13 = .ok (.iconst 0, 1) := by decide +kernel
theorem dX5_restAll_14 : decode cX5_restAll 14 = .ok (.invokevirtual 103, 3) := by decide +kernel
theorem dX5_restAll_17 : decode cX5_restAll 17 = .ok (.pop, 1) := by decide +kernel
theorem dX5_restAll_18 : decode cX5_restAll 18 = .ok (.iinc 1 1, 3) := by decide +kernel
theorem dX5_restAll_21 : decode cX5_restAll 21 = .ok (.goto (-19), 3) := by decide +kernel
theorem dX5_restAll_24 : decode cX5_restAll 24 = .ok (.return_, 1) := by decide +kernel
set_option maxRecDepth 20000 in
theorem ggX5_endHour_X5_strainOf : GoodIn wsX5_endHour wsX5_strainOf := goodIn_r _ [10, 11, 12, 13, 14, 15, 16, 17, 18, 19, 20, 21, 22, 23, 24, 25, 26, 27, 28, 29, 30, 31, 32, 33, 34, 35, 36] (by decide +kernel) (by decide +kernel)
set_option maxRecDepth 20000 in
theorem gX5_endHour_X5_strainOf : GoodIn wsX5_endHour (wsV RX5 86 RX5 yX5_strainOf wsX5_strainOf) := goodIn_app (goodIn_of _ (by decide +kernel)) ggX5_endHour_X5_strainOf
theorem dX5_endHour_0 : decode cX5_endHour 0 = .ok (.aload_n 0, 1) := by decide +kernel
theorem dX5_endHour_1 : decode cX5_endHour 1 = .ok (.dup, 1) := by decide +kernel
theorem dX5_endHour_2 : decode cX5_endHour 2 = .ok (.getfield 107, 3) := by decide +kernel
theorem dX5_endHour_5 : decode cX5_endHour 5 = .ok (.iconst 1, 1) := by decide +kernel
theorem dX5_endHour_6 : decode cX5_endHour 6 = .ok (.iadd, 1) := by decide +kernel
theorem dX5_endHour_7 : decode cX5_endHour 7 = .ok (.putfield 107, 3) := by decide +kernel
theorem dX5_endHour_10 : decode cX5_endHour 10 = .ok (.iconst 0, 1) := by decide +kernel
theorem dX5_endHour_11 : decode cX5_endHour 11 = .ok (.istore_n 1, 1) := by decide +kernel
theorem dX5_endHour_12 : decode cX5_endHour 12 = .ok (.iconst 0, 1) := by decide +kernel
theorem dX5_endHour_13 : decode cX5_endHour 13 = .ok (.istore_n 2, 1) := by decide +kernel
theorem dX5_endHour_14 : decode cX5_endHour 14 = .ok (.iload_n 2, 1) := by decide +kernel
theorem dX5_endHour_15 : decode cX5_endHour 15 = .ok (.aload_n 0, 1) := by decide +kernel
theorem dX5_endHour_16 : decode cX5_endHour 16 = .ok (.getfield 59, 3) := by decide +kernel
theorem dX5_endHour_19 : decode cX5_endHour 19 = .ok (.if_icmp .ge 45, 3) := by decide +kernel
theorem dX5_endHour_22 : decode cX5_endHour 22 = .ok (.aload_n 0, 1) := by decide +kernel
theorem dX5_endHour_23 : decode cX5_endHour 23 = .ok (.iload_n 2, 1) := by decide +kernel
theorem dX5_endHour_24 : decode cX5_endHour 24 = .ok (.invokevirtual 86, 3) := by decide +kernel
theorem dX5_endHour_27 : decode cX5_endHour 27 = .ok (.aload_n 0, 1) := by decide +kernel
theorem dX5_endHour_28 : decode cX5_endHour 28 = .ok (.getfield 29, 3) := by decide +kernel
theorem dX5_endHour_31 : decode cX5_endHour 31 = .ok (.if_icmp .le 27, 3) := by decide +kernel
theorem dX5_endHour_34 : decode cX5_endHour 34 = .ok (.aload_n 0, 1) := by decide +kernel
theorem dX5_endHour_35 : decode cX5_endHour 35 = .ok (.getfield 16, 3) := by decide +kernel
theorem dX5_endHour_38 : decode cX5_endHour 38 = .ok (.iload_n 2, 1) := by decide +kernel
theorem dX5_endHour_39 : decode cX5_endHour 39 = .ok (.iaload, 1) := by decide +kernel
theorem dX5_endHour_40 : decode cX5_endHour 40 = .ok (.ldc 68, 2) := by decide +kernel
theorem dX5_endHour_42 : decode cX5_endHour 42 = .ok (.if_icmp .ne 16, 3) := by decide +kernel
theorem dX5_endHour_45 : decode cX5_endHour 45 = .ok (.aload_n 0, 1) := by decide +kernel
theorem dX5_endHour_46 : decode cX5_endHour 46 = .ok (.getfield 16, 3) := by decide +kernel
theorem dX5_endHour_49 : decode cX5_endHour 49 = .ok (.iload_n 2, 1) := by decide +kernel
theorem dX5_endHour_50 : decode cX5_endHour 50 = .ok (.aload_n 0, 1) := by decide +kernel
theorem dX5_endHour_51 : decode cX5_endHour 51 = .ok (.getfield 107, 3) := by decide +kernel
theorem dX5_endHour_54 : decode cX5_endHour 54 = .ok (.iastore, 1) := by decide +kernel
theorem dX5_endHour_55 : decode cX5_endHour 55 = .ok (.iinc 1 1, 3) := by decide +kernel
theorem dX5_endHour_58 : decode cX5_endHour 58 = .ok (.iinc 2 1, 3) := by decide +kernel
theorem dX5_endHour_61 : decode cX5_endHour 61 = .ok (.goto (-47), 3) := by decide +kernel
theorem dX5_endHour_64 : decode cX5_endHour 64 = .ok (.iload_n 1, 1) := by decide +kernel
theorem dX5_endHour_65 : decode cX5_endHour 65 = .ok (.ireturn, 1) := by decide +kernel
theorem dX5_endDrying_0 : decode cX5_endDrying 0 = .ok (.aload_n 0, 1) := by decide +kernel
theorem dX5_endDrying_1 : decode cX5_endDrying 1 = .ok (.dup, 1) := by decide +kernel
theorem dX5_endDrying_2 : decode cX5_endDrying 2 = .ok (.getfield 110, 3) := by decide +kernel
theorem dX5_endDrying_5 : decode cX5_endDrying 5 = .ok (.iconst 1, 1) := by decide +kernel
theorem dX5_endDrying_6 : decode cX5_endDrying 6 = .ok (.iadd, 1) := by decide +kernel
theorem dX5_endDrying_7 : decode cX5_endDrying 7 = .ok (.putfield 110, 3) := by decide +kernel
theorem dX5_endDrying_10 : decode cX5_endDrying 10 = .ok (.aload_n 0, 1) := by decide +kernel
theorem dX5_endDrying_11 : decode cX5_endDrying 11 = .ok (.getfield 100, 3) := by decide +kernel
theorem dX5_endDrying_14 : decode cX5_endDrying 14 = .ok (.ifCond .le 31, 3) := by decide +kernel
theorem dX5_endDrying_17 : decode cX5_endDrying 17 = .ok (.aload_n 0, 1) := by decide +kernel
theorem dX5_endDrying_18 : decode cX5_endDrying 18 = .ok (.getfield 110, 3) := by decide +kernel
theorem dX5_endDrying_21 : decode cX5_endDrying 21 = .ok (.aload_n 0, 1) := by decide +kernel
theorem dX5_endDrying_22 : decode cX5_endDrying 22 = .ok (.getfield 100, 3) := by decide +kernel
theorem dX5_endDrying_25 : decode cX5_endDrying 25 = .ok (.irem, 1) := by decide +kernel
theorem dX5_endDrying_26 : decode cX5_endDrying 26 = .ok (.ifCond .ne 19, 3) := by decide +kernel
theorem dX5_endDrying_29 : decode cX5_endDrying 29 = .ok (.aload_n 0, 1) := by decide +kernel
theorem dX5_endDrying_30 : decode cX5_endDrying 30 = .ok (.aload_n 0, 1) := by decide +kernel
theorem dX5_endDrying_31 : decode cX5_endDrying 31 = .ok (.getfield 96, 3) := by decide +kernel
theorem dX5_endDrying_34 : decode cX5_endDrying 34 = .ok (.ifCond .ne 7, 3) := by decide +kernel
theorem dX5_endDrying_37 : decode cX5_endDrying 37 = .ok (.iconst 1, 1) := by decide +kernel
theorem dX5_endDrying_38 : decode cX5_endDrying 38 = .ok (.goto 4, 3) := by decide +kernel
theorem dX5_endDrying_41 : decode cX5_endDrying 41 = .ok (.iconst 0, 1) := by decide +kernel
theorem dX5_endDrying_42 : decode cX5_endDrying 42 = .ok (.putfield 96, 3) := by decide +kernel
theorem dX5_endDrying_45 : decode cX5_endDrying 45 = .ok (.return_, 1) := by decide +kernel
set_option maxRecDepth 20000 in
theorem ggX5_dryHour_X5_blow : GoodIn wsX5_dryHour wsX5_blow := goodIn_r _ [6, 7, 8, 9, 10, 11, 12, 13, 5, 14, 15, 16, 17, 18, 19, 38, 39, 40, 41, 42, 43, 44, 45, 46, 47, 48, 49, 50, 51, 52, 53, 54, 55, 56, 57, 58, 59, 60, 61] (by decide +kernel) (by decide +kernel)
set_option maxRecDepth 20000 in
theorem gX5_dryHour_X5_blow : GoodIn wsX5_dryHour (wsV RX5 113 RX5 yX5_blow wsX5_blow) := goodIn_app (goodIn_of _ (by decide +kernel)) ggX5_dryHour_X5_blow
set_option maxRecDepth 20000 in
theorem ggX5_dryHour_X5_endHour : GoodIn wsX5_dryHour wsX5_endHour := goodIn_r _ [23, 24, 7, 25, 26, 27, 28, 29, 30, 5, 31, 15, 17, 38, 39, 40, 41, 42, 43, 44, 45, 46, 47, 48, 49, 50, 51, 52, 53, 54, 55, 56, 57, 58, 59, 60, 61] (by decide +kernel) (by decide +kernel)
set_option maxRecDepth 20000 in
theorem gX5_dryHour_X5_endHour : GoodIn wsX5_dryHour (wsV RX5 119 RX5 yX5_endHour wsX5_endHour) := goodIn_app (goodIn_of _ (by decide +kernel)) ggX5_dryHour_X5_endHour
set_option maxRecDepth 20000 in
theorem ggX5_dryHour_X5_endDrying : GoodIn wsX5_dryHour wsX5_endDrying := goodIn_r _ [35, 36, 37, 8, 38, 39, 40, 41, 42, 43, 44, 45, 46, 47, 48, 49, 50, 51, 52, 53, 54, 55, 56, 57, 58, 59, 60, 61] (by decide +kernel) (by decide +kernel)
set_option maxRecDepth 20000 in
theorem gX5_dryHour_X5_endDrying : GoodIn wsX5_dryHour (wsV RX5 122 RX5 yX5_endDrying wsX5_endDrying) := goodIn_app (goodIn_of _ (by decide +kernel)) ggX5_dryHour_X5_endDrying
theorem dX5_dryHour_0 : decode cX5_dryHour 0 = .ok (.aload_n 0, 1) := by decide +kernel
theorem dX5_dryHour_1 : decode cX5_dryHour 1 = .ok (.iload_n 1, 1) := by decide +kernel
theorem dX5_dryHour_2 : decode cX5_dryHour 2 = .ok (.invokevirtual 113, 3) := by decide +kernel
theorem dX5_dryHour_5 : decode cX5_dryHour 5 = .ok (.istore_n 2, 1) := by decide +kernel
theorem dX5_dryHour_6 : decode cX5_dryHour 6 = .ok (.aload_n 0, 1) := by decide +kernel
theorem dX5_dryHour_7 : decode cX5_dryHour 7 = .ok (.dup, 1) := by decide +kernel
theorem dX5_dryHour_8 : decode cX5_dryHour 8 = .ok (.getfield 116, 3) := by decide +kernel
theorem dX5_dryHour_11 : decode cX5_dryHour 11 = .ok (.iload_n 2, 1) := by decide +kernel
theorem dX5_dryHour_12 : decode cX5_dryHour 12 = .ok (.iadd, 1) := by decide +kernel
theorem dX5_dryHour_13 : decode cX5_dryHour 13 = .ok (.putfield 116, 3) := by decide +kernel
theorem dX5_dryHour_16 : decode cX5_dryHour 16 = .ok (.aload_n 0, 1) := by decide +kernel
theorem dX5_dryHour_17 : decode cX5_dryHour 17 = .ok (.invokevirtual 119, 3) := by decide +kernel
theorem dX5_dryHour_20 : decode cX5_dryHour 20 = .ok (.pop, 1) := by decide +kernel
theorem dX5_dryHour_21 : decode cX5_dryHour 21 = .ok (.aload_n 0, 1) := by decide +kernel
theorem dX5_dryHour_22 : decode cX5_dryHour 22 = .ok (.invokevirtual 122, 3) := by decide +kernel
theorem dX5_dryHour_25 : decode cX5_dryHour 25 = .ok (.iload_n 2, 1) := by decide +kernel
theorem dX5_dryHour_26 : decode cX5_dryHour 26 = .ok (.ireturn, 1) := by decide +kernel
set_option maxRecDepth 20000 in
theorem ggX5_dry_X5_isBetween : GoodIn wsX5_dry wsX5_isBetween := goodIn_r _ [6] (by decide +kernel) (by decide +kernel)
set_option maxRecDepth 20000 in
theorem gX5_dry_X5_isBetween : GoodIn wsX5_dry (va_wsS RX5 62 yX5_isBetween wsX5_isBetween) := goodIn_app (goodIn_of _ (by decide +kernel)) ggX5_dry_X5_isBetween
set_option maxRecDepth 20000 in
theorem ggX5_dry_X5_dryHour : GoodIn wsX5_dry wsX5_dryHour := goodIn_r _ [10, 11, 12, 13, 14, 5, 15, 16, 17, 18, 19, 20, 21, 22, 23, 24, 25, 26, 27, 28, 29, 30, 31, 32, 33, 34, 35, 36, 37, 38, 39, 40, 41, 42, 43, 44, 45, 46, 47, 48, 49, 50, 51, 52, 53, 54, 55, 56, 57, 58, 59, 60, 61, 62, 63, 64, 65, 66, 67, 68, 69, 70] (by decide +kernel) (by decide +kernel)
set_option maxRecDepth 20000 in
theorem gX5_dry_X5_dryHour : GoodIn wsX5_dry (wsV RX5 125 RX5 yX5_dryHour wsX5_dryHour) := goodIn_app (goodIn_of _ (by decide +kernel)) ggX5_dry_X5_dryHour
theorem dX5_dry_0 : decode cX5_dry 0 = .ok (.iload_n 1, 1) := by decide +kernel
theorem dX5_dry_1 : decode cX5_dry 1 = .ok (.iconst 1, 1) := by decide +kernel
theorem dX5_dry_2 : decode cX5_dry 2 = .ok (.sipush 200, 3) := by decide +kernel
theorem dX5_dry_5 : decode cX5_dry 5 = .ok (.invokestatic 62, 3) := by decide +kernel
theorem dX5_dry_8 : decode cX5_dry 8 = .ok (.ifCond .ne 6, 3) := by decide +kernel
theorem dX5_dry_11 : decode cX5_dry 11 = .ok (.ldc 66, 2) := by decide +kernel
theorem dX5_dry_13 : decode cX5_dry 13 = .ok (.ireturn, 1) := by decide +kernel
theorem dX5_dry_14 : decode cX5_dry 14 = .ok (.iconst 0, 1) := by decide +kernel
theorem dX5_dry_15 : decode cX5_dry 15 = .ok (.istore_n 2, 1) := by decide +kernel
theorem dX5_dry_16 : decode cX5_dry 16 = .ok (.iconst 0, 1) := by decide +kernel
theorem dX5_dry_17 : decode cX5_dry 17 = .ok (.istore_n 3, 1) := by decide +kernel
theorem dX5_dry_18 : decode cX5_dry 18 = .ok (.iload_n 3, 1) := by decide +kernel
theorem dX5_dry_19 : decode cX5_dry 19 = .ok (.iload_n 1, 1) := by decide +kernel
theorem dX5_dry_20 : decode cX5_dry 20 = .ok (.if_icmp .ge 20, 3) := by decide +kernel
theorem dX5_dry_23 : decode cX5_dry 23 = .ok (.iload_n 2, 1) := by decide +kernel
theorem dX5_dry_24 : decode cX5_dry 24 = .ok (.aload_n 0, 1) := by decide +kernel
theorem dX5_dry_25 : decode cX5_dry 25 = .ok (.aload_n 0, 1) := by decide +kernel
theorem dX5_dry_26 : decode cX5_dry 26 = .ok (.getfield 32, 3) := by decide +kernel
theorem dX5_dry_29 : decode cX5_dry 29 = .ok (.invokevirtual 125, 3) := by decide +kernel
theorem dX5_dry_32 : decode cX5_dry 32 = .ok (.iadd, 1) := by decide +kernel
theorem dX5_dry_33 : decode cX5_dry 33 = .ok (.istore_n 2, 1) := by decide +kernel
theorem dX5_dry_34 : decode cX5_dry 34 = .ok (.iinc 3 1, 3) := by decide +kernel
theorem dX5_dry_37 : decode cX5_dry 37 = .ok (.goto (-19), 3) := by decide +kernel
theorem dX5_dry_40 : decode cX5_dry 40 = .ok (.iload_n 2, 1) := by decide +kernel
theorem dX5_dry_41 : decode cX5_dry 41 = .ok (.ireturn, 1) := by decide +kernel
set_option maxRecDepth 20000 in
theorem ggX5_rest_X5_isBetween : GoodIn wsX5_rest wsX5_isBetween := goodIn_r _ [5] (by decide +kernel) (by decide +kernel)
set_option maxRecDepth 20000 in
theorem gX5_rest_X5_isBetween : GoodIn wsX5_rest (va_wsS RX5 62 yX5_isBetween wsX5_isBetween) := goodIn_app (goodIn_of _ (by decide +kernel)) ggX5_rest_X5_isBetween
set_option maxRecDepth 20000 in
theorem ggX5_rest_X5_restAll : GoodIn wsX5_rest wsX5_restAll := goodIn_r _ [9, 10, 11, 12, 13, 4, 14, 15, 16, 17, 18, 19, 32, 33, 34, 35, 36, 37, 38, 39, 40, 41, 42, 43, 44, 45, 46, 47, 48, 49, 50, 51, 52, 53, 54, 55] (by decide +kernel) (by decide +kernel)
set_option maxRecDepth 20000 in
theorem gX5_rest_X5_restAll : GoodIn wsX5_rest (wsV RX5 128 RX5 yX5_restAll wsX5_restAll) := goodIn_app (goodIn_of _ (by decide +kernel)) ggX5_rest_X5_restAll
set_option maxRecDepth 20000 in
theorem ggX5_rest_X5_endHour : GoodIn wsX5_rest wsX5_endHour := goodIn_r _ [23, 24, 10, 25, 26, 27, 28, 29, 30, 4, 31, 15, 17, 32, 33, 34, 35, 36, 37, 38, 39, 40, 41, 42, 43, 44, 45, 46, 47, 48, 49, 50, 51, 52, 53, 54, 55] (by decide +kernel) (by decide +kernel)
set_option maxRecDepth 20000 in
theorem gX5_rest_X5_endHour : GoodIn wsX5_rest (wsV RX5 119 RX5 yX5_endHour wsX5_endHour) := goodIn_app (goodIn_of _ (by decide +kernel)) ggX5_rest_X5_endHour
theorem dX5_rest_0 : decode cX5_rest 0 = .ok (.iload_n 1, 1) := by decide +kernel
theorem dX5_rest_1 : decode cX5_rest 1 = .ok (.iconst 1, 1) := by decide +kernel
theorem dX5_rest_2 : decode cX5_rest 2 = .ok (.sipush 200, 3) := by decide +kernel
theorem dX5_rest_5 : decode cX5_rest 5 = .ok (.invokestatic 62, 3) := by decide +kernel
theorem dX5_rest_8 : decode cX5_rest 8 = .ok (.ifCond .ne 6, 3) := by decide +kernel
theorem dX5_rest_11 : decode cX5_rest 11 = .ok (.ldc 66, 2) := by decide +kernel
theorem dX5_rest_13 : decode cX5_rest 13 = .ok (.ireturn, 1) := by decide +kernel
theorem dX5_rest_14 : decode cX5_rest 14 = .ok (.iconst 0, 1) := by decide +kernel
theorem dX5_rest_15 : decode cX5_rest 15 = .ok (.istore_n 2, 1) := by decide +kernel
theorem dX5_rest_16 : decode cX5_rest 16 = .ok (.iconst 0, 1) := by decide +kernel
theorem dX5_rest_17 : decode cX5_rest 17 = .ok (.istore_n 3, 1) := by decide +kernel
theorem dX5_rest_18 : decode cX5_rest 18 = .ok (.iload_n 3, 1) := by decide +kernel
theorem dX5_rest_19 : decode cX5_rest 19 = .ok (.iload_n 1, 1) := by decide +kernel
theorem dX5_rest_20 : decode cX5_rest 20 = .ok (.if_icmp .ge 20, 3) := by decide +kernel
theorem dX5_rest_23 : decode cX5_rest 23 = .ok (.aload_n 0, 1) := by decide +kernel
theorem dX5_rest_24 : decode cX5_rest 24 = .ok (.invokevirtual 128, 3) := by decide +kernel
theorem dX5_rest_27 : decode cX5_rest 27 = .ok (.iload_n 2, 1) := by decide +kernel
theorem dX5_rest_28 : decode cX5_rest 28 = .ok (.aload_n 0, 1) := by decide +kernel
theorem dX5_rest_29 : decode cX5_rest 29 = .ok (.invokevirtual 119, 3) := by decide +kernel
theorem dX5_rest_32 : decode cX5_rest 32 = .ok (.iadd, 1) := by decide +kernel
theorem dX5_rest_33 : decode cX5_rest 33 = .ok (.istore_n 2, 1) := by decide +kernel
theorem dX5_rest_34 : decode cX5_rest 34 = .ok (.iinc 3 1, 3) := by decide +kernel
theorem dX5_rest_37 : decode cX5_rest 37 = .ok (.goto (-19), 3) := by decide +kernel
theorem dX5_rest_40 : decode cX5_rest 40 = .ok (.iload_n 2, 1) := by decide +kernel
theorem dX5_rest_41 : decode cX5_rest 41 = .ok (.ireturn, 1) := by decide +kernel
theorem dX5_hour_0 : decode cX5_hour 0 = .ok (.aload_n 0, 1) := by decide +kernel
theorem dX5_hour_1 : decode cX5_hour 1 = .ok (.getfield 107, 3) := by decide +kernel
theorem dX5_hour_4 : decode cX5_hour 4 = .ok (.ireturn, 1) := by decide +kernel
theorem dX5_evaporated_0 : decode cX5_evaporated 0 = .ok (.aload_n 0, 1) := by decide +kernel
theorem dX5_evaporated_1 : decode cX5_evaporated 1 = .ok (.getfield 116, 3) := by decide +kernel
theorem dX5_evaporated_4 : decode cX5_evaporated 4 = .ok (.ireturn, 1) := by decide +kernel
set_option maxRecDepth 20000 in
theorem ggX5_airMoisture_X5_isBoard : GoodIn wsX5_airMoisture wsX5_isBoard := goodIn_r _ [7, 8, 9, 10, 6, 11, 12, 13, 14, 15, 16, 17, 18, 19, 20, 21, 22, 23, 24, 25, 26, 27, 28, 29, 30, 31, 32, 33, 34, 35] (by decide +kernel) (by decide +kernel)
set_option maxRecDepth 20000 in
theorem gX5_airMoisture_X5_isBoard : GoodIn wsX5_airMoisture (wsV RX5 69 RX5 yX5_isBoard wsX5_isBoard) := goodIn_app (goodIn_of _ (by decide +kernel)) ggX5_airMoisture_X5_isBoard
theorem dX5_airMoisture_0 : decode cX5_airMoisture 0 = .ok (.aload_n 0, 1) := by decide +kernel
theorem dX5_airMoisture_1 : decode cX5_airMoisture 1 = .ok (.iload_n 1, 1) := by decide +kernel
theorem dX5_airMoisture_2 : decode cX5_airMoisture 2 = .ok (.invokevirtual 69, 3) := by decide +kernel
theorem dX5_airMoisture_5 : decode cX5_airMoisture 5 = .ok (.ifCond .eq 12, 3) := by decide +kernel
theorem dX5_airMoisture_8 : decode cX5_airMoisture 8 = .ok (.aload_n 0, 1) := by decide +kernel
theorem dX5_airMoisture_9 : decode cX5_airMoisture 9 = .ok (.getfield 19, 3) := by decide +kernel
theorem dX5_airMoisture_12 : decode cX5_airMoisture 12 = .ok (.iload_n 1, 1) := by decide +kernel
theorem dX5_airMoisture_13 : decode cX5_airMoisture 13 = .ok (.iaload, 1) := by decide +kernel
theorem dX5_airMoisture_14 : decode cX5_airMoisture 14 = .ok (.goto 5, 3) := by decide +kernel
theorem dX5_airMoisture_17 : decode cX5_airMoisture 17 = .ok (.ldc 73, 2) := by decide +kernel
theorem dX5_airMoisture_19 : decode cX5_airMoisture 19 = .ok (.ireturn, 1) := by decide +kernel
set_option maxRecDepth 20000 in
theorem ggX5_addStage_X5_isBetween : GoodIn wsX5_addStage wsX5_isBetween := goodIn_r _ [9] (by decide +kernel) (by decide +kernel)
set_option maxRecDepth 20000 in
theorem gX5_addStage_X5_isBetween : GoodIn wsX5_addStage (va_wsS RX5 62 yX5_isBetween wsX5_isBetween) := goodIn_app (goodIn_of _ (by decide +kernel)) ggX5_addStage_X5_isBetween
theorem dX5_addStage_0 : decode cX5_addStage 0 = .ok (.iload_n 1, 1) := by decide +kernel
theorem dX5_addStage_1 : decode cX5_addStage 1 = .ok (.iconst 0, 1) := by decide +kernel
theorem dX5_addStage_2 : decode cX5_addStage 2 = .ok (.sipush 2000, 3) := by decide +kernel
theorem dX5_addStage_5 : decode cX5_addStage 5 = .ok (.invokestatic 62, 3) := by decide +kernel
theorem dX5_addStage_8 : decode cX5_addStage 8 = .ok (.ifCond .eq 36, 3) := by decide +kernel
theorem dX5_addStage_11 : decode cX5_addStage 11 = .ok (.aload_n 0, 1) := by decide +kernel
theorem dX5_addStage_12 : decode cX5_addStage 12 = .ok (.getfield 131, 3) := by decide +kernel
theorem dX5_addStage_15 : decode cX5_addStage 15 = .ok (.ifCond .le 18, 3) := by decide +kernel
theorem dX5_addStage_18 : decode cX5_addStage 18 = .ok (.iload_n 1, 1) := by decide +kernel
theorem dX5_addStage_19 : decode cX5_addStage 19 = .ok (.aload_n 0, 1) := by decide +kernel
theorem dX5_addStage_20 : decode cX5_addStage 20 = .ok (.getfield 38, 3) := by decide +kernel
theorem dX5_addStage_23 : decode cX5_addStage 23 = .ok (.aload_n 0, 1) := by decide +kernel
theorem dX5_addStage_24 : decode cX5_addStage 24 = .ok (.getfield 131, 3) := by decide +kernel
theorem dX5_addStage_27 : decode cX5_addStage 27 = .ok (.iconst 1, 1) := by decide +kernel
theorem dX5_addStage_28 : decode cX5_addStage 28 = .ok (.isub, 1) := by decide +kernel
theorem dX5_addStage_29 : decode cX5_addStage 29 = .ok (.iaload, 1) := by decide +kernel
theorem dX5_addStage_30 : decode cX5_addStage 30 = .ok (.if_icmp .ge 14, 3) := by decide +kernel
theorem dX5_addStage_33 : decode cX5_addStage 33 = .ok (.iload_n 2, 1) := by decide +kernel
theorem dX5_addStage_34 : decode cX5_addStage 34 = .ok (.iconst 0, 1) := by decide +kernel
theorem dX5_addStage_35 : decode cX5_addStage 35 = .ok (.sipush 300, 3) := by decide +kernel
theorem dX5_addStage_38 : decode cX5_addStage 38 = .ok (.invokestatic 62, 3) := by decide +kernel
theorem dX5_addStage_41 : decode cX5_addStage 41 = .ok (.ifCond .ne 6, 3) := by decide +kernel
theorem dX5_addStage_44 : decode cX5_addStage 44 = .ok (.ldc 66, 2) := by decide +kernel
theorem dX5_addStage_46 : decode cX5_addStage 46 = .ok (.ireturn, 1) := by decide +kernel
theorem dX5_addStage_47 : decode cX5_addStage 47 = .ok (.aload_n 0, 1) := by decide +kernel
theorem dX5_addStage_48 : decode cX5_addStage 48 = .ok (.getfield 131, 3) := by decide +kernel
theorem dX5_addStage_51 : decode cX5_addStage 51 = .ok (.bipush 8, 2) := by decide +kernel
theorem dX5_addStage_53 : decode cX5_addStage 53 = .ok (.if_icmp .ne 6, 3) := by decide +kernel
theorem dX5_addStage_56 : decode cX5_addStage 56 = .ok (.ldc 67, 2) := by decide +kernel
theorem dX5_addStage_58 : decode cX5_addStage 58 = .ok (.ireturn, 1) := by decide +kernel
theorem dX5_addStage_59 : decode cX5_addStage 59 = .ok (.aload_n 0, 1) := by decide +kernel
theorem dX5_addStage_60 : decode cX5_addStage 60 = .ok (.getfield 38, 3) := by decide +kernel
theorem dX5_addStage_63 : decode cX5_addStage 63 = .ok (.aload_n 0, 1) := by decide +kernel
theorem dX5_addStage_64 : decode cX5_addStage 64 = .ok (.getfield 131, 3) := by decide +kernel
theorem dX5_addStage_67 : decode cX5_addStage 67 = .ok (.iload_n 1, 1) := by decide +kernel
theorem dX5_addStage_68 : decode cX5_addStage 68 = .ok (.iastore, 1) := by decide +kernel
theorem dX5_addStage_69 : decode cX5_addStage 69 = .ok (.aload_n 0, 1) := by decide +kernel
theorem dX5_addStage_70 : decode cX5_addStage 70 = .ok (.getfield 41, 3) := by decide +kernel
theorem dX5_addStage_73 : decode cX5_addStage 73 = .ok (.aload_n 0, 1) := by decide +kernel
theorem dX5_addStage_74 : decode cX5_addStage 74 = .ok (.getfield 131, 3) := by decide +kernel
theorem dX5_addStage_77 : decode cX5_addStage 77 = .ok (.iload_n 2, 1) := by decide +kernel
theorem dX5_addStage_78 : decode cX5_addStage 78 = .ok (.iastore, 1) := by decide +kernel
theorem dX5_addStage_79 : decode cX5_addStage 79 = .ok (.aload_n 0, 1) := by decide +kernel
theorem dX5_addStage_80 : decode cX5_addStage 80 = .ok (.dup, 1) := by decide +kernel
theorem dX5_addStage_81 : decode cX5_addStage 81 = .ok (.getfield 131, 3) := by decide +kernel
theorem dX5_addStage_84 : decode cX5_addStage 84 = .ok (.iconst 1, 1) := by decide +kernel
theorem dX5_addStage_85 : decode cX5_addStage 85 = .ok (.iadd, 1) := by decide +kernel
theorem dX5_addStage_86 : decode cX5_addStage 86 = .ok (.putfield 131, 3) := by decide +kernel
theorem dX5_addStage_89 : decode cX5_addStage 89 = .ok (.aload_n 0, 1) := by decide +kernel
theorem dX5_addStage_90 : decode cX5_addStage 90 = .ok (.getfield 131, 3) := by decide +kernel
theorem dX5_addStage_93 : decode cX5_addStage 93 = .ok (.iconst 1, 1) := by decide +kernel
theorem dX5_addStage_94 : decode cX5_addStage 94 = .ok (.isub, 1) := by decide +kernel
theorem dX5_addStage_95 : decode cX5_addStage 95 = .ok (.ireturn, 1) := by decide +kernel
theorem dX5_clearStages_0 : decode cX5_clearStages 0 = .ok (.aload_n 0, 1) := by decide +kernel
theorem dX5_clearStages_1 : decode cX5_clearStages 1 = .ok (.getfield 131, 3) := by decide +kernel
theorem dX5_clearStages_4 : decode cX5_clearStages 4 = .ok (.istore_n 1, 1) := by decide +kernel
theorem dX5_clearStages_5 : decode cX5_clearStages 5 = .ok (.aload_n 0, 1) := by decide +kernel
theorem dX5_clearStages_6 : decode cX5_clearStages 6 = .ok (.iconst 0, 1) := by decide +kernel
theorem dX5_clearStages_7 : decode cX5_clearStages 7 = .ok (.putfield 131, 3) := by decide +kernel
theorem dX5_clearStages_10 : decode cX5_clearStages 10 = .ok (.iload_n 1, 1) := by decide +kernel
theorem dX5_clearStages_11 : decode cX5_clearStages 11 = .ok (.ireturn, 1) := by decide +kernel
set_option maxRecDepth 20000 in
theorem ggX5_stageNow_X5_wettest : GoodIn wsX5_stageNow wsX5_wettest := goodIn_r _ [8, 1, 9, 10, 11, 12, 7, 13, 14, 15, 16, 17, 18, 19, 20, 21, 22, 23, 24, 25, 26, 27, 28, 29, 30, 31, 32, 33, 34, 35, 36, 37, 38, 39, 40, 41, 42, 43] (by decide +kernel) (by decide +kernel)
set_option maxRecDepth 20000 in
theorem gX5_stageNow_X5_wettest : GoodIn wsX5_stageNow (wsV RX5 89 RX5 yX5_wettest wsX5_wettest) := goodIn_app (goodIn_of _ (by decide +kernel)) ggX5_stageNow_X5_wettest
set_option maxRecDepth 20000 in
theorem ggX5_stageNow_X5_averageOf : GoodIn wsX5_stageNow wsX5_averageOf := goodIn_r _ [13, 14, 15, 16, 17, 7, 18, 19, 20, 21, 22, 23, 24, 25, 26, 27, 28, 29, 30, 31, 32, 33, 34, 35, 36, 37, 38, 39, 40, 41, 42, 43] (by decide +kernel) (by decide +kernel)
set_option maxRecDepth 20000 in
theorem gX5_stageNow_X5_averageOf : GoodIn wsX5_stageNow (wsV RX5 83 RX5 yX5_averageOf wsX5_averageOf) := goodIn_app (goodIn_of _ (by decide +kernel)) ggX5_stageNow_X5_averageOf
theorem dX5_stageNow_0 : decode cX5_stageNow 0 = .ok (.aload_n 0, 1) := by decide +kernel
theorem dX5_stageNow_1 : decode cX5_stageNow 1 = .ok (.invokevirtual 89, 3) := by decide +kernel
theorem dX5_stageNow_4 : decode cX5_stageNow 4 = .ok (.istore_n 1, 1) := by decide +kernel
theorem dX5_stageNow_5 : decode cX5_stageNow 5 = .ok (.ldc 68, 2) := by decide +kernel
theorem dX5_stageNow_7 : decode cX5_stageNow 7 = .ok (.istore_n 2, 1) := by decide +kernel
theorem dX5_stageNow_8 : decode cX5_stageNow 8 = .ok (.iconst 0, 1) := by decide +kernel
theorem dX5_stageNow_9 : decode cX5_stageNow 9 = .ok (.istore_n 3, 1) := by decide +kernel
theorem dX5_stageNow_10 : decode cX5_stageNow 10 = .ok (.iload_n 3, 1) := by decide +kernel
theorem dX5_stageNow_11 : decode cX5_stageNow 11 = .ok (.aload_n 0, 1) := by decide +kernel
theorem dX5_stageNow_12 : decode cX5_stageNow 12 = .ok (.getfield 131, 3) := by decide +kernel
theorem dX5_stageNow_15 : decode cX5_stageNow 15 = .ok (.if_icmp .ge 35, 3) := by decide +kernel
theorem dX5_stageNow_18 : decode cX5_stageNow 18 = .ok (.iload_n 1, 1) := by decide +kernel
theorem dX5_stageNow_19 : decode cX5_stageNow 19 = .ok (.ldc 68, 2) := by decide +kernel
theorem dX5_stageNow_21 : decode cX5_stageNow 21 = .ok (.if_icmp .eq 29, 3) := by decide +kernel
theorem dX5_stageNow_24 : decode cX5_stageNow 24 = .ok (.aload_n 0, 1) := by decide +kernel
theorem dX5_stageNow_25 : decode cX5_stageNow 25 = .ok (.getfield 38, 3) := by decide +kernel
theorem dX5_stageNow_28 : decode cX5_stageNow 28 = .ok (.iload_n 3, 1) := by decide +kernel
theorem dX5_stageNow_29 : decode cX5_stageNow 29 = .ok (.iaload, 1) := by decide +kernel
theorem dX5_stageNow_30 : decode cX5_stageNow 30 = .ok (.aload_n 0, 1) := by decide +kernel
theorem dX5_stageNow_31 : decode cX5_stageNow 31 = .ok (.iload_n 1, 1) := by decide +kernel
theorem dX5_stageNow_32 : decode cX5_stageNow 32 = .ok (.invokevirtual 83, 3) := by decide +kernel
theorem dX5_stageNow_35 : decode cX5_stageNow 35 = .ok (.if_icmp .lt 7, 3) := by decide +kernel
theorem dX5_stageNow_38 : decode cX5_stageNow 38 = .ok (.iload_n 3, 1) := by decide +kernel
theorem dX5_stageNow_39 : decode cX5_stageNow 39 = .ok (.goto 4, 3) := by decide +kernel
theorem dX5_stageNow_42 : decode cX5_stageNow 42 = .ok (.iload_n 2, 1) := by decide +kernel
theorem dX5_stageNow_43 : decode cX5_stageNow 43 = .ok (.istore_n 2, 1) := by decide +kernel
theorem dX5_stageNow_44 : decode cX5_stageNow 44 = .ok (.iinc 3 1, 3) := by decide +kernel
theorem dX5_stageNow_47 : decode cX5_stageNow 47 = .ok (.goto (-37), 3) := by decide +kernel
theorem dX5_stageNow_50 : decode cX5_stageNow 50 = .ok (.iload_n 2, 1) := by decide +kernel
theorem dX5_stageNow_51 : decode cX5_stageNow 51 = .ok (.ireturn, 1) := by decide +kernel
set_option maxRecDepth 20000 in
theorem ggX5_currentStage_X5_stageNow : GoodIn wsX5_currentStage wsX5_stageNow := goodIn_r _ [5, 6, 7, 8, 9, 10, 11, 4, 12, 13, 14, 15, 16, 17, 18, 19, 20, 21, 22, 23, 24, 25, 26, 27, 28, 29, 30, 31, 32, 33, 34, 35, 36, 37, 38, 39, 40, 41, 42, 43, 44, 45, 46, 47] (by decide +kernel) (by decide +kernel)
set_option maxRecDepth 20000 in
theorem gX5_currentStage_X5_stageNow : GoodIn wsX5_currentStage (wsV RX5 134 RX5 yX5_stageNow wsX5_stageNow) := goodIn_app (goodIn_of _ (by decide +kernel)) ggX5_currentStage_X5_stageNow
theorem dX5_currentStage_0 : decode cX5_currentStage 0 = .ok (.aload_n 0, 1) := by decide +kernel
theorem dX5_currentStage_1 : decode cX5_currentStage 1 = .ok (.invokevirtual 134, 3) := by decide +kernel
theorem dX5_currentStage_4 : decode cX5_currentStage 4 = .ok (.ireturn, 1) := by decide +kernel
set_option maxRecDepth 20000 in
theorem ggX5_isWet_X5_wettest : GoodIn wsX5_isWet wsX5_wettest := goodIn_r _ [6, 1, 7, 8, 9, 10, 5, 11, 12, 13, 14, 15, 16, 17, 18, 19, 20, 21, 22, 23, 24, 25, 26, 27, 28, 29, 30, 31, 32, 33, 34, 35, 36, 37, 38, 39, 40, 41] (by decide +kernel) (by decide +kernel)
set_option maxRecDepth 20000 in
theorem gX5_isWet_X5_wettest : GoodIn wsX5_isWet (wsV RX5 89 RX5 yX5_wettest wsX5_wettest) := goodIn_app (goodIn_of _ (by decide +kernel)) ggX5_isWet_X5_wettest
set_option maxRecDepth 20000 in
theorem ggX5_isWet_X5_averageOf : GoodIn wsX5_isWet wsX5_averageOf := goodIn_r _ [11, 12, 13, 14, 15, 5, 16, 17, 18, 19, 20, 21, 22, 23, 24, 25, 26, 27, 28, 29, 30, 31, 32, 33, 34, 35, 36, 37, 38, 39, 40, 41] (by decide +kernel) (by decide +kernel)
set_option maxRecDepth 20000 in
theorem gX5_isWet_X5_averageOf : GoodIn wsX5_isWet (wsV RX5 83 RX5 yX5_averageOf wsX5_averageOf) := goodIn_app (goodIn_of _ (by decide +kernel)) ggX5_isWet_X5_averageOf
theorem dX5_isWet_0 : decode cX5_isWet 0 = .ok (.aload_n 0, 1) := by decide +kernel
theorem dX5_isWet_1 : decode cX5_isWet 1 = .ok (.invokevirtual 89, 3) := by decide +kernel
theorem dX5_isWet_4 : decode cX5_isWet 4 = .ok (.istore_n 2, 1) := by decide +kernel
theorem dX5_isWet_5 : decode cX5_isWet 5 = .ok (.iload_n 2, 1) := by decide +kernel
theorem dX5_isWet_6 : decode cX5_isWet 6 = .ok (.ldc 68, 2) := by decide +kernel
theorem dX5_isWet_8 : decode cX5_isWet 8 = .ok (.if_icmp .eq 16, 3) := by decide +kernel
theorem dX5_isWet_11 : decode cX5_isWet 11 = .ok (.aload_n 0, 1) := by decide +kernel
theorem dX5_isWet_12 : decode cX5_isWet 12 = .ok (.iload_n 2, 1) := by decide +kernel
theorem dX5_isWet_13 : decode cX5_isWet 13 = .ok (.invokevirtual 83, 3) := by decide +kernel
theorem dX5_isWet_16 : decode cX5_isWet 16 = .ok (.iload_n 1, 1) := by decide +kernel
theorem dX5_isWet_17 : decode cX5_isWet 17 = .ok (.if_icmp .le 7, 3) := by decide +kernel
theorem dX5_isWet_20 : decode cX5_isWet 20 = .ok (.iconst 1, 1) := by decide +kernel
theorem dX5_isWet_21 : decode cX5_isWet 21 = .ok (.goto 4, 3) := by decide +kernel
theorem dX5_isWet_24 : decode cX5_isWet 24 = .ok (.iconst 0, 1) := by decide +kernel
theorem dX5_isWet_25 : decode cX5_isWet 25 = .ok (.ireturn, 1) := by decide +kernel
set_option maxRecDepth 20000 in
theorem ggX5_runSchedule_X5_isBetween : GoodIn wsX5_runSchedule wsX5_isBetween := goodIn_r _ [8] (by decide +kernel) (by decide +kernel)
set_option maxRecDepth 20000 in
theorem gX5_runSchedule_X5_isBetween : GoodIn wsX5_runSchedule (va_wsS RX5 62 yX5_isBetween wsX5_isBetween) := goodIn_app (goodIn_of _ (by decide +kernel)) ggX5_runSchedule_X5_isBetween
set_option maxRecDepth 20000 in
theorem ggX5_runSchedule_X5_isWet : GoodIn wsX5_runSchedule wsX5_isWet := goodIn_r _ [12, 2, 13, 14, 15, 7, 16, 17, 18, 19, 20, 21, 22, 23, 24, 25, 26, 27, 70, 71, 72, 73, 74, 75, 76, 77, 78, 79, 80, 81, 82, 83, 84, 85, 86, 87, 88, 89, 90, 91, 92, 93] (by decide +kernel) (by decide +kernel)
set_option maxRecDepth 20000 in
theorem gX5_runSchedule_X5_isWet : GoodIn wsX5_runSchedule (wsV RX5 137 RX5 yX5_isWet wsX5_isWet) := goodIn_app (goodIn_of _ (by decide +kernel)) ggX5_runSchedule_X5_isWet
set_option maxRecDepth 20000 in
theorem ggX5_runSchedule_X5_stageNow : GoodIn wsX5_runSchedule wsX5_stageNow := goodIn_r _ [31, 2, 32, 33, 13, 14, 15, 7, 16, 17, 18, 19, 20, 21, 22, 23, 24, 25, 26, 27, 70, 71, 72, 73, 74, 75, 76, 77, 78, 79, 80, 81, 82, 83, 84, 85, 86, 87, 88, 89, 90, 91, 92, 93] (by decide +kernel) (by decide +kernel)
set_option maxRecDepth 20000 in
theorem gX5_runSchedule_X5_stageNow : GoodIn wsX5_runSchedule (wsV RX5 134 RX5 yX5_stageNow wsX5_stageNow) := goodIn_app (goodIn_of _ (by decide +kernel)) ggX5_runSchedule_X5_stageNow
set_option maxRecDepth 20000 in
theorem ggX5_runSchedule_X5_dryHour : GoodIn wsX5_runSchedule wsX5_dryHour := goodIn_r _ [37, 38, 39, 40, 41, 7, 42, 17, 43, 44, 45, 46, 47, 48, 49, 22, 50, 27, 51, 52, 53, 54, 55, 56, 57, 58, 59, 2, 60, 61, 62, 63, 64, 65, 66, 67, 68, 69, 70, 71, 72, 73, 74, 75, 76, 77, 78, 79, 80, 81, 82, 83, 84, 85, 86, 87, 88, 89, 90, 91, 92, 93] (by decide +kernel) (by decide +kernel)
set_option maxRecDepth 20000 in
theorem gX5_runSchedule_X5_dryHour : GoodIn wsX5_runSchedule (wsV RX5 125 RX5 yX5_dryHour wsX5_dryHour) := goodIn_app (goodIn_of _ (by decide +kernel)) ggX5_runSchedule_X5_dryHour
theorem dX5_runSchedule_0 : decode cX5_runSchedule 0 = .ok (.iload_n 1, 1) := by decide +kernel
theorem dX5_runSchedule_1 : decode cX5_runSchedule 1 = .ok (.iconst 0, 1) := by decide +kernel
theorem dX5_runSchedule_2 : decode cX5_runSchedule 2 = .ok (.sipush 2000, 3) := by decide +kernel
theorem dX5_runSchedule_5 : decode cX5_runSchedule 5 = .ok (.invokestatic 62, 3) := by decide +kernel
theorem dX5_runSchedule_8 : decode cX5_runSchedule 8 = .ok (.ifCond .eq 14, 3) := by decide +kernel
theorem dX5_runSchedule_11 : decode cX5_runSchedule 11 = .ok (.iload_n 2, 1) := by decide +kernel
theorem dX5_runSchedule_12 : decode cX5_runSchedule 12 = .ok (.iconst 1, 1) := by decide +kernel
theorem dX5_runSchedule_13 : decode cX5_runSchedule 13 = .ok (.sipush 200, 3) := by decide +kernel
theorem dX5_runSchedule_16 : decode cX5_runSchedule 16 = .ok (.invokestatic 62, 3) := by decide +kernel
theorem dX5_runSchedule_19 : decode cX5_runSchedule 19 = .ok (.ifCond .ne 6, 3) := by decide +kernel
theorem dX5_runSchedule_22 : decode cX5_runSchedule 22 = .ok (.ldc 66, 2) := by decide +kernel
theorem dX5_runSchedule_24 : decode cX5_runSchedule 24 = .ok (.ireturn, 1) := by decide +kernel
theorem dX5_runSchedule_25 : decode cX5_runSchedule 25 = .ok (.iconst 0, 1) := by decide +kernel
theorem dX5_runSchedule_26 : decode cX5_runSchedule 26 = .ok (.istore_n 3, 1) := by decide +kernel
theorem dX5_runSchedule_27 : decode cX5_runSchedule 27 = .ok (.iload_n 3, 1) := by decide +kernel
theorem dX5_runSchedule_28 : decode cX5_runSchedule 28 = .ok (.iload_n 2, 1) := by decide +kernel
theorem dX5_runSchedule_29 : decode cX5_runSchedule 29 = .ok (.if_icmp .ge 49, 3) := by decide +kernel
theorem dX5_runSchedule_32 : decode cX5_runSchedule 32 = .ok (.aload_n 0, 1) := by decide +kernel
theorem dX5_runSchedule_33 : decode cX5_runSchedule 33 = .ok (.iload_n 1, 1) := by decide +kernel
theorem dX5_runSchedule_34 : decode cX5_runSchedule 34 = .ok (.invokevirtual 137, 3) := by decide +kernel
theorem dX5_runSchedule_37 : decode cX5_runSchedule 37 = .ok (.ifCond .eq 41, 3) := by decide +kernel
theorem dX5_runSchedule_40 : decode cX5_runSchedule 40 = .ok (.aload_n 0, 1) := by decide +kernel
theorem dX5_runSchedule_41 : decode cX5_runSchedule 41 = .ok (.invokevirtual 134, 3) := by decide +kernel
theorem dX5_runSchedule_44 : decode cX5_runSchedule 44 = .ok (.istore 4, 2) := by decide +kernel
theorem dX5_runSchedule_46 : decode cX5_runSchedule 46 = .ok (.aload_n 0, 1) := by decide +kernel
theorem dX5_runSchedule_47 : decode cX5_runSchedule 47 = .ok (.iload 4, 2) := by decide +kernel
theorem dX5_runSchedule_49 : decode cX5_runSchedule 49 = .ok (.ldc 68, 2) := by decide +kernel
theorem dX5_runSchedule_51 : decode cX5_runSchedule 51 = .ok (.if_icmp .ne 10, 3) := by decide +kernel
theorem dX5_runSchedule_54 : decode cX5_runSchedule 54 = .ok (.aload_n 0, 1) := by decide +kernel
theorem dX5_runSchedule_55 : decode cX5_runSchedule 55 = .ok (.getfield 32, 3) := by decide +kernel
theorem dX5_runSchedule_58 : decode cX5_runSchedule 58 = .ok (.goto 10, 3) := by decide +kernel
theorem dX5_runSchedule_61 : decode cX5_runSchedule 61 = .ok (.aload_n 0, 1) := by decide +kernel
theorem dX5_runSchedule_62 : decode cX5_runSchedule 62 = .ok (.getfield 41, 3) := by decide +kernel
theorem dX5_runSchedule_65 : decode cX5_runSchedule 65 = .ok (.iload 4, 2) := by decide +kernel
theorem dX5_runSchedule_67 : decode cX5_runSchedule 67 = .ok (.iaload, 1) := by decide +kernel
theorem dX5_runSchedule_68 : decode cX5_runSchedule 68 = .ok (.invokevirtual 125, 3) := by decide +kernel
theorem dX5_runSchedule_71 : decode cX5_runSchedule 71 = .ok (.pop, 1) := by decide +kernel
theorem dX5_runSchedule_72 : decode cX5_runSchedule 72 = .ok (.iinc 3 1, 3) := by decide +kernel
theorem dX5_runSchedule_75 : decode cX5_runSchedule 75 = .ok (.goto (-48), 3) := by decide +kernel
theorem dX5_runSchedule_78 : decode cX5_runSchedule 78 = .ok (.iload_n 3, 1) := by decide +kernel
theorem dX5_runSchedule_79 : decode cX5_runSchedule 79 = .ok (.ireturn, 1) := by decide +kernel
theorem dX5_copy_0 : decode cX5_copy 0 = .ok (.iconst 0, 1) := by decide +kernel
theorem dX5_copy_1 : decode cX5_copy 1 = .ok (.istore_n 3, 1) := by decide +kernel
theorem dX5_copy_2 : decode cX5_copy 2 = .ok (.iload_n 3, 1) := by decide +kernel
theorem dX5_copy_3 : decode cX5_copy 3 = .ok (.iload_n 2, 1) := by decide +kernel
theorem dX5_copy_4 : decode cX5_copy 4 = .ok (.if_icmp .ge 15, 3) := by decide +kernel
theorem dX5_copy_7 : decode cX5_copy 7 = .ok (.aload_n 1, 1) := by decide +kernel
theorem dX5_copy_8 : decode cX5_copy 8 = .ok (.iload_n 3, 1) := by decide +kernel
theorem dX5_copy_9 : decode cX5_copy 9 = .ok (.aload_n 0, 1) := by decide +kernel
theorem dX5_copy_10 : decode cX5_copy 10 = .ok (.iload_n 3, 1) := by decide +kernel
theorem dX5_copy_11 : decode cX5_copy 11 = .ok (.iaload, 1) := by decide +kernel
theorem dX5_copy_12 : decode cX5_copy 12 = .ok (.iastore, 1) := by decide +kernel
theorem dX5_copy_13 : decode cX5_copy 13 = .ok (.iinc 3 1, 3) := by decide +kernel
theorem dX5_copy_16 : decode cX5_copy 16 = .ok (.goto (-14), 3) := by decide +kernel
theorem dX5_copy_19 : decode cX5_copy 19 = .ok (.return_, 1) := by decide +kernel
set_option maxRecDepth 20000 in
theorem ggX5_isStrained_X5_strainOf : GoodIn wsX5_isStrained wsX5_strainOf := goodIn_r _ [7, 8, 9, 10, 11, 12, 13, 14, 15, 16, 17, 18, 19, 20, 21, 22, 23, 24, 25, 26, 27, 28, 29, 30, 31, 32, 33] (by decide +kernel) (by decide +kernel)
set_option maxRecDepth 20000 in
theorem gX5_isStrained_X5_strainOf : GoodIn wsX5_isStrained (wsV RX5 86 RX5 yX5_strainOf wsX5_strainOf) := goodIn_app (goodIn_of _ (by decide +kernel)) ggX5_isStrained_X5_strainOf
theorem dX5_isStrained_0 : decode cX5_isStrained 0 = .ok (.iconst 0, 1) := by decide +kernel
theorem dX5_isStrained_1 : decode cX5_isStrained 1 = .ok (.istore_n 1, 1) := by decide +kernel
theorem dX5_isStrained_2 : decode cX5_isStrained 2 = .ok (.iload_n 1, 1) := by decide +kernel
theorem dX5_isStrained_3 : decode cX5_isStrained 3 = .ok (.aload_n 0, 1) := by decide +kernel
theorem dX5_isStrained_4 : decode cX5_isStrained 4 = .ok (.getfield 59, 3) := by decide +kernel
theorem dX5_isStrained_7 : decode cX5_isStrained 7 = .ok (.if_icmp .ge 23, 3) := by decide +kernel
theorem dX5_isStrained_10 : decode cX5_isStrained 10 = .ok (.aload_n 0, 1) := by decide +kernel
theorem dX5_isStrained_11 : decode cX5_isStrained 11 = .ok (.iload_n 1, 1) := by decide +kernel
theorem dX5_isStrained_12 : decode cX5_isStrained 12 = .ok (.invokevirtual 86, 3) := by decide +kernel
theorem dX5_isStrained_15 : decode cX5_isStrained 15 = .ok (.aload_n 0, 1) := by decide +kernel
theorem dX5_isStrained_16 : decode cX5_isStrained 16 = .ok (.getfield 29, 3) := by decide +kernel
theorem dX5_isStrained_19 : decode cX5_isStrained 19 = .ok (.if_icmp .le 5, 3) := by decide +kernel
theorem dX5_isStrained_22 : decode cX5_isStrained 22 = .ok (.iconst 1, 1) := by decide +kernel
theorem dX5_isStrained_23 : decode cX5_isStrained 23 = .ok (.ireturn, 1) := by decide +kernel
theorem dX5_isStrained_24 : decode cX5_isStrained 24 = .ok (.iinc 1 1, 3) := by decide +kernel
theorem dX5_isStrained_27 : decode cX5_isStrained 27 = .ok (.goto (-25), 3) := by decide +kernel
theorem dX5_isStrained_30 : decode cX5_isStrained 30 = .ok (.iconst 0, 1) := by decide +kernel
theorem dX5_isStrained_31 : decode cX5_isStrained 31 = .ok (.ireturn, 1) := by decide +kernel
set_option maxRecDepth 20000 in
theorem ggX5_planHour_X5_copy : GoodIn wsX5_planHour wsX5_copy := goodIn_r _ [7] (by decide +kernel) (by decide +kernel)
set_option maxRecDepth 20000 in
theorem gX5_planHour_X5_copy : GoodIn wsX5_planHour (va_wsS RX5 140 yX5_copy wsX5_copy) := goodIn_app (goodIn_of _ (by decide +kernel)) ggX5_planHour_X5_copy
set_option maxRecDepth 20000 in
theorem ggX5_planHour_X5_blow : GoodIn wsX5_planHour wsX5_blow := goodIn_r _ [11, 12, 13, 14, 15, 16, 17, 18, 6, 19, 20, 21, 1, 22, 23, 43, 44, 45, 46, 47, 48, 49, 50, 51, 52, 53, 54, 55, 56, 57, 58, 59, 60, 61, 62, 63, 64, 65, 66] (by decide +kernel) (by decide +kernel)
set_option maxRecDepth 20000 in
theorem gX5_planHour_X5_blow : GoodIn wsX5_planHour (wsV RX5 113 RX5 yX5_blow wsX5_blow) := goodIn_app (goodIn_of _ (by decide +kernel)) ggX5_planHour_X5_blow
set_option maxRecDepth 20000 in
theorem ggX5_planHour_X5_isStrained : GoodIn wsX5_planHour wsX5_isStrained := goodIn_r _ [27, 12, 28, 29, 30, 31, 6, 32, 20, 1, 43, 44, 45, 46, 47, 48, 49, 50, 51, 52, 53, 54, 55, 56, 57, 58, 59, 60, 61, 62, 63, 64, 65, 66] (by decide +kernel) (by decide +kernel)
set_option maxRecDepth 20000 in
theorem gX5_planHour_X5_isStrained : GoodIn wsX5_planHour (wsV RX5 144 RX5 yX5_isStrained wsX5_isStrained) := goodIn_app (goodIn_of _ (by decide +kernel)) ggX5_planHour_X5_isStrained
set_option maxRecDepth 20000 in
theorem ggX5_planHour_X5_endDrying : GoodIn wsX5_planHour wsX5_endDrying := goodIn_r _ [36, 37, 38, 13, 43, 44, 45, 46, 47, 48, 49, 50, 51, 52, 53, 54, 55, 56, 57, 58, 59, 60, 61, 62, 63, 64, 65, 66] (by decide +kernel) (by decide +kernel)
set_option maxRecDepth 20000 in
theorem gX5_planHour_X5_endDrying : GoodIn wsX5_planHour (wsV RX5 122 RX5 yX5_endDrying wsX5_endDrying) := goodIn_app (goodIn_of _ (by decide +kernel)) ggX5_planHour_X5_endDrying
set_option maxRecDepth 20000 in
theorem ggX5_planHour_X5_restAll : GoodIn wsX5_planHour wsX5_restAll := goodIn_r _ [42, 12, 16, 17, 18, 6, 19, 20, 21, 1, 22, 23, 43, 44, 45, 46, 47, 48, 49, 50, 51, 52, 53, 54, 55, 56, 57, 58, 59, 60, 61, 62, 63, 64, 65, 66] (by decide +kernel) (by decide +kernel)
set_option maxRecDepth 20000 in
theorem gX5_planHour_X5_restAll : GoodIn wsX5_planHour (wsV RX5 128 RX5 yX5_restAll wsX5_restAll) := goodIn_app (goodIn_of _ (by decide +kernel)) ggX5_planHour_X5_restAll
theorem dX5_planHour_0 : decode cX5_planHour 0 = .ok (.aload_n 0, 1) := by decide +kernel
theorem dX5_planHour_1 : decode cX5_planHour 1 = .ok (.getfield 13, 3) := by decide +kernel
theorem dX5_planHour_4 : decode cX5_planHour 4 = .ok (.aload_n 0, 1) := by decide +kernel
theorem dX5_planHour_5 : decode cX5_planHour 5 = .ok (.getfield 50, 3) := by decide +kernel
theorem dX5_planHour_8 : decode cX5_planHour 8 = .ok (.bipush 54, 2) := by decide +kernel
theorem dX5_planHour_10 : decode cX5_planHour 10 = .ok (.invokestatic 140, 3) := by decide +kernel
theorem dX5_planHour_13 : decode cX5_planHour 13 = .ok (.iconst 0, 1) := by decide +kernel
theorem dX5_planHour_14 : decode cX5_planHour 14 = .ok (.istore_n 1, 1) := by decide +kernel
theorem dX5_planHour_15 : decode cX5_planHour 15 = .ok (.iload_n 1, 1) := by decide +kernel
theorem dX5_planHour_16 : decode cX5_planHour 16 = .ok (.sipush 300, 3) := by decide +kernel
theorem dX5_planHour_19 : decode cX5_planHour 19 = .ok (.if_icmp .gt 41, 3) := by decide +kernel
theorem dX5_planHour_22 : decode cX5_planHour 22 = .ok (.aload_n 0, 1) := by decide +kernel
theorem dX5_planHour_23 : decode cX5_planHour 23 = .ok (.iload_n 1, 1) := by decide +kernel
theorem dX5_planHour_24 : decode cX5_planHour 24 = .ok (.invokevirtual 113, 3) := by decide +kernel
theorem dX5_planHour_27 : decode cX5_planHour 27 = .ok (.pop, 1) := by decide +kernel
theorem dX5_planHour_28 : decode cX5_planHour 28 = .ok (.aload_n 0, 1) := by decide +kernel
theorem dX5_planHour_29 : decode cX5_planHour 29 = .ok (.invokevirtual 144, 3) := by decide +kernel
theorem dX5_planHour_32 : decode cX5_planHour 32 = .ok (.ifCond .ne 9, 3) := by decide +kernel
theorem dX5_planHour_35 : decode cX5_planHour 35 = .ok (.aload_n 0, 1) := by decide +kernel
theorem dX5_planHour_36 : decode cX5_planHour 36 = .ok (.invokevirtual 122, 3) := by decide +kernel
theorem dX5_planHour_39 : decode cX5_planHour 39 = .ok (.iload_n 1, 1) := by decide +kernel
theorem dX5_planHour_40 : decode cX5_planHour 40 = .ok (.ireturn, 1) := by decide +kernel
theorem dX5_planHour_41 : decode cX5_planHour 41 = .ok (.aload_n 0, 1) := by decide +kernel
theorem dX5_planHour_42 : decode cX5_planHour 42 = .ok (.getfield 50, 3) := by decide +kernel
theorem dX5_planHour_45 : decode cX5_planHour 45 = .ok (.aload_n 0, 1) := by decide +kernel
theorem dX5_planHour_46 : decode cX5_planHour 46 = .ok (.getfield 13, 3) := by decide +kernel
theorem dX5_planHour_49 : decode cX5_planHour 49 = .ok (.bipush 54, 2) := by decide +kernel
theorem dX5_planHour_51 : decode cX5_planHour 51 = .ok (.invokestatic 140, 3) := by decide +kernel
theorem dX5_planHour_54 : decode cX5_planHour 54 = .ok (.iinc 1 10, 3) := by decide +kernel
theorem dX5_planHour_57 : decode cX5_planHour 57 = .ok (.goto (-42), 3) := by decide +kernel
theorem dX5_planHour_60 : decode cX5_planHour 60 = .ok (.aload_n 0, 1) := by decide +kernel
theorem dX5_planHour_61 : decode cX5_planHour 61 = .ok (.invokevirtual 128, 3) := by decide +kernel
theorem dX5_planHour_64 : decode cX5_planHour 64 = .ok (.ldc 148, 2) := by decide +kernel
theorem dX5_planHour_66 : decode cX5_planHour 66 = .ok (.ireturn, 1) := by decide +kernel
set_option maxRecDepth 20000 in
theorem ggX5_findPlan_X5_copy : GoodIn wsX5_findPlan wsX5_copy := goodIn_r _ [12] (by decide +kernel) (by decide +kernel)
set_option maxRecDepth 20000 in
theorem gX5_findPlan_X5_copy : GoodIn wsX5_findPlan (va_wsS RX5 140 yX5_copy wsX5_copy) := goodIn_app (goodIn_of _ (by decide +kernel)) ggX5_findPlan_X5_copy
set_option maxRecDepth 20000 in
theorem ggX5_findPlan_X5_isWet : GoodIn wsX5_findPlan wsX5_isWet := goodIn_r _ [16, 17, 18, 19, 20, 11, 21, 22, 23, 24, 25, 26, 27, 28, 29, 30, 31, 3, 68, 69, 70, 71, 72, 73, 74, 75, 76, 77, 78, 79, 80, 81, 82, 83, 84, 85, 86, 87, 88, 89, 90, 91] (by decide +kernel) (by decide +kernel)
set_option maxRecDepth 20000 in
theorem gX5_findPlan_X5_isWet : GoodIn wsX5_findPlan (wsV RX5 137 RX5 yX5_isWet wsX5_isWet) := goodIn_app (goodIn_of _ (by decide +kernel)) ggX5_findPlan_X5_isWet
set_option maxRecDepth 20000 in
theorem ggX5_findPlan_X5_planHour : GoodIn wsX5_findPlan wsX5_planHour := goodIn_r _ [35, 3, 36, 37, 9, 10, 11, 12, 38, 39, 40, 41, 22, 1, 42, 5, 43, 44, 45, 46, 27, 47, 48, 49, 50, 51, 52, 53, 54, 55, 56, 57, 58, 59, 60, 61, 62, 2, 63, 64, 65, 66, 67, 68, 69, 70, 71, 72, 73, 74, 75, 76, 77, 78, 79, 80, 81, 82, 83, 84, 85, 86, 87, 88, 89, 90, 91] (by decide +kernel) (by decide +kernel)
set_option maxRecDepth 20000 in
theorem gX5_findPlan_X5_planHour : GoodIn wsX5_findPlan (wsV RX5 152 RX5 yX5_planHour wsX5_planHour) := goodIn_app (goodIn_of _ (by decide +kernel)) ggX5_findPlan_X5_planHour
theorem dX5_findPlan_0 : decode cX5_findPlan 0 = .ok (.aload_n 0, 1) := by decide +kernel
theorem dX5_findPlan_1 : decode cX5_findPlan 1 = .ok (.getfield 96, 3) := by decide +kernel
theorem dX5_findPlan_4 : decode cX5_findPlan 4 = .ok (.istore_n 2, 1) := by decide +kernel
theorem dX5_findPlan_5 : decode cX5_findPlan 5 = .ok (.aload_n 0, 1) := by decide +kernel
theorem dX5_findPlan_6 : decode cX5_findPlan 6 = .ok (.getfield 110, 3) := by decide +kernel
theorem dX5_findPlan_9 : decode cX5_findPlan 9 = .ok (.istore_n 3, 1) := by decide +kernel
theorem dX5_findPlan_10 : decode cX5_findPlan 10 = .ok (.aload_n 0, 1) := by decide +kernel
theorem dX5_findPlan_11 : decode cX5_findPlan 11 = .ok (.getfield 13, 3) := by decide +kernel
theorem dX5_findPlan_14 : decode cX5_findPlan 14 = .ok (.aload_n 0, 1) := by decide +kernel
theorem dX5_findPlan_15 : decode cX5_findPlan 15 = .ok (.getfield 44, 3) := by decide +kernel
theorem dX5_findPlan_18 : decode cX5_findPlan 18 = .ok (.bipush 54, 2) := by decide +kernel
theorem dX5_findPlan_20 : decode cX5_findPlan 20 = .ok (.invokestatic 140, 3) := by decide +kernel
theorem dX5_findPlan_23 : decode cX5_findPlan 23 = .ok (.aload_n 0, 1) := by decide +kernel
theorem dX5_findPlan_24 : decode cX5_findPlan 24 = .ok (.getfield 19, 3) := by decide +kernel
theorem dX5_findPlan_27 : decode cX5_findPlan 27 = .ok (.aload_n 0, 1) := by decide +kernel
theorem dX5_findPlan_28 : decode cX5_findPlan 28 = .ok (.getfield 47, 3) := by decide +kernel
theorem dX5_findPlan_31 : decode cX5_findPlan 31 = .ok (.bipush 6, 2) := by decide +kernel
theorem dX5_findPlan_33 : decode cX5_findPlan 33 = .ok (.invokestatic 140, 3) := by decide +kernel
theorem dX5_findPlan_36 : decode cX5_findPlan 36 = .ok (.aload_n 0, 1) := by decide +kernel
theorem dX5_findPlan_37 : decode cX5_findPlan 37 = .ok (.iconst 0, 1) := by decide +kernel
theorem dX5_findPlan_38 : decode cX5_findPlan 38 = .ok (.putfield 149, 3) := by decide +kernel
theorem dX5_findPlan_41 : decode cX5_findPlan 41 = .ok (.aload_n 0, 1) := by decide +kernel
theorem dX5_findPlan_42 : decode cX5_findPlan 42 = .ok (.getfield 149, 3) := by decide +kernel
theorem dX5_findPlan_45 : decode cX5_findPlan 45 = .ok (.sipush 300, 3) := by decide +kernel
theorem dX5_findPlan_48 : decode cX5_findPlan 48 = .ok (.if_icmp .ge 37, 3) := by decide +kernel
theorem dX5_findPlan_51 : decode cX5_findPlan 51 = .ok (.aload_n 0, 1) := by decide +kernel
theorem dX5_findPlan_52 : decode cX5_findPlan 52 = .ok (.iload_n 1, 1) := by decide +kernel
theorem dX5_findPlan_53 : decode cX5_findPlan 53 = .ok (.invokevirtual 137, 3) := by decide +kernel
theorem dX5_findPlan_56 : decode cX5_findPlan 56 = .ok (.ifCond .eq 29, 3) := by decide +kernel
theorem dX5_findPlan_59 : decode cX5_findPlan 59 = .ok (.aload_n 0, 1) := by decide +kernel
theorem dX5_findPlan_60 : decode cX5_findPlan 60 = .ok (.getfield 53, 3) := by decide +kernel
theorem dX5_findPlan_63 : decode cX5_findPlan 63 = .ok (.aload_n 0, 1) := by decide +kernel
theorem dX5_findPlan_64 : decode cX5_findPlan 64 = .ok (.getfield 149, 3) := by decide +kernel
theorem dX5_findPlan_67 : decode cX5_findPlan 67 = .ok (.aload_n 0, 1) := by decide +kernel
theorem dX5_findPlan_68 : decode cX5_findPlan 68 = .ok (.invokevirtual 152, 3) := by decide +kernel
theorem dX5_findPlan_71 : decode cX5_findPlan 71 = .ok (.iastore, 1) := by decide +kernel
theorem dX5_findPlan_72 : decode cX5_findPlan 72 = .ok (.aload_n 0, 1) := by decide +kernel
theorem dX5_findPlan_73 : decode cX5_findPlan 73 = .ok (.dup, 1) := by decide +kernel
theorem dX5_findPlan_74 : decode cX5_findPlan 74 = .ok (.getfield 149, 3) := by decide +kernel
theorem dX5_findPlan_77 : decode cX5_findPlan 77 = .ok (.iconst 1, 1) := by decide +kernel
theorem dX5_findPlan_78 : decode cX5_findPlan 78 = .ok (.iadd, 1) := by decide +kernel
theorem dX5_findPlan_79 : decode cX5_findPlan 79 = .ok (.putfield 149, 3) := by decide +kernel
theorem dX5_findPlan_82 : decode cX5_findPlan 82 = .ok (.goto (-41), 3) := by decide +kernel
theorem dX5_findPlan_85 : decode cX5_findPlan 85 = .ok (.aload_n 0, 1) := by decide +kernel
theorem dX5_findPlan_86 : decode cX5_findPlan 86 = .ok (.iload_n 1, 1) := by decide +kernel
theorem dX5_findPlan_87 : decode cX5_findPlan 87 = .ok (.invokevirtual 137, 3) := by decide +kernel
theorem dX5_findPlan_90 : decode cX5_findPlan 90 = .ok (.ifCond .ne 7, 3) := by decide +kernel
theorem dX5_findPlan_93 : decode cX5_findPlan 93 = .ok (.iconst 1, 1) := by decide +kernel
theorem dX5_findPlan_94 : decode cX5_findPlan 94 = .ok (.goto 4, 3) := by decide +kernel
theorem dX5_findPlan_97 : decode cX5_findPlan 97 = .ok (.iconst 0, 1) := by decide +kernel
theorem dX5_findPlan_98 : decode cX5_findPlan 98 = .ok (.istore 4, 2) := by decide +kernel
theorem dX5_findPlan_100 : decode cX5_findPlan 100 = .ok (.aload_n 0, 1) := by decide +kernel
theorem dX5_findPlan_101 : decode cX5_findPlan 101 = .ok (.getfield 44, 3) := by decide +kernel
theorem dX5_findPlan_104 : decode cX5_findPlan 104 = .ok (.aload_n 0, 1) := by decide +kernel
theorem dX5_findPlan_105 : decode cX5_findPlan 105 = .ok (.getfield 13, 3) := by decide +kernel
theorem dX5_findPlan_108 : decode cX5_findPlan 108 = .ok (.bipush 54, 2) := by decide +kernel
theorem dX5_findPlan_110 : decode cX5_findPlan 110 = .ok (.invokestatic 140, 3) := by decide +kernel
theorem dX5_findPlan_113 : decode cX5_findPlan 113 = .ok (.aload_n 0, 1) := by decide +kernel
theorem dX5_findPlan_114 : decode cX5_findPlan 114 = .ok (.getfield 47, 3) := by decide +kernel
theorem dX5_findPlan_117 : decode cX5_findPlan 117 = .ok (.aload_n 0, 1) := by decide +kernel
theorem dX5_findPlan_118 : decode cX5_findPlan 118 = .ok (.getfield 19, 3) := by decide +kernel
theorem dX5_findPlan_121 : decode cX5_findPlan 121 = .ok (.bipush 6, 2) := by decide +kernel
theorem dX5_findPlan_123 : decode cX5_findPlan 123 = .ok (.invokestatic 140, 3) := by decide +kernel
theorem dX5_findPlan_126 : decode cX5_findPlan 126 = .ok (.aload_n 0, 1) := by decide +kernel
theorem dX5_findPlan_127 : decode cX5_findPlan 127 = .ok (.iload_n 2, 1) := by decide +kernel
theorem dX5_findPlan_128 : decode cX5_findPlan 128 = .ok (.putfield 96, 3) := by decide +kernel
theorem dX5_findPlan_131 : decode cX5_findPlan 131 = .ok (.aload_n 0, 1) := by decide +kernel
theorem dX5_findPlan_132 : decode cX5_findPlan 132 = .ok (.iload_n 3, 1) := by decide +kernel
theorem dX5_findPlan_133 : decode cX5_findPlan 133 = .ok (.putfield 110, 3) := by decide +kernel
theorem dX5_findPlan_136 : decode cX5_findPlan 136 = .ok (.iload 4, 2) := by decide +kernel
theorem dX5_findPlan_138 : decode cX5_findPlan 138 = .ok (.ireturn, 1) := by decide +kernel
set_option maxRecDepth 20000 in
theorem ggX5_plannedHours_X5_isBetween : GoodIn wsX5_plannedHours wsX5_isBetween := goodIn_r _ [7] (by decide +kernel) (by decide +kernel)
set_option maxRecDepth 20000 in
theorem gX5_plannedHours_X5_isBetween : GoodIn wsX5_plannedHours (va_wsS RX5 62 yX5_isBetween wsX5_isBetween) := goodIn_app (goodIn_of _ (by decide +kernel)) ggX5_plannedHours_X5_isBetween
set_option maxRecDepth 20000 in
theorem ggX5_plannedHours_X5_findPlan : GoodIn wsX5_plannedHours wsX5_findPlan := goodIn_r _ [11, 12, 13, 14, 15, 16, 17, 2, 18, 19, 20, 6, 21, 22, 23, 24, 25, 3, 26, 27, 28, 29, 30, 31, 32, 33, 34, 35, 36, 37, 38, 39, 40, 41, 42, 43, 44, 45, 46, 47, 48, 49, 50, 51, 52, 53, 54, 55, 56, 57, 58, 59, 60, 61, 62, 63, 64, 65, 66, 67, 68, 69, 70, 71, 72, 73, 74, 75, 76, 77, 78, 79, 80, 81, 82, 83, 84, 85, 86, 87, 88, 89, 90, 91, 92, 93, 94, 95, 96, 97, 98, 99] (by decide +kernel) (by decide +kernel)
set_option maxRecDepth 20000 in
theorem gX5_plannedHours_X5_findPlan : GoodIn wsX5_plannedHours (wsV RX5 155 RX5 yX5_findPlan wsX5_findPlan) := goodIn_app (goodIn_of _ (by decide +kernel)) ggX5_plannedHours_X5_findPlan
theorem dX5_plannedHours_0 : decode cX5_plannedHours 0 = .ok (.iload_n 1, 1) := by decide +kernel
theorem dX5_plannedHours_1 : decode cX5_plannedHours 1 = .ok (.iconst 0, 1) := by decide +kernel
theorem dX5_plannedHours_2 : decode cX5_plannedHours 2 = .ok (.sipush 2000, 3) := by decide +kernel
theorem dX5_plannedHours_5 : decode cX5_plannedHours 5 = .ok (.invokestatic 62, 3) := by decide +kernel
theorem dX5_plannedHours_8 : decode cX5_plannedHours 8 = .ok (.ifCond .ne 6, 3) := by decide +kernel
theorem dX5_plannedHours_11 : decode cX5_plannedHours 11 = .ok (.ldc 66, 2) := by decide +kernel
theorem dX5_plannedHours_13 : decode cX5_plannedHours 13 = .ok (.ireturn, 1) := by decide +kernel
theorem dX5_plannedHours_14 : decode cX5_plannedHours 14 = .ok (.aload_n 0, 1) := by decide +kernel
theorem dX5_plannedHours_15 : decode cX5_plannedHours 15 = .ok (.iload_n 1, 1) := by decide +kernel
theorem dX5_plannedHours_16 : decode cX5_plannedHours 16 = .ok (.invokevirtual 155, 3) := by decide +kernel
theorem dX5_plannedHours_19 : decode cX5_plannedHours 19 = .ok (.ifCond .eq 10, 3) := by decide +kernel
theorem dX5_plannedHours_22 : decode cX5_plannedHours 22 = .ok (.aload_n 0, 1) := by decide +kernel
theorem dX5_plannedHours_23 : decode cX5_plannedHours 23 = .ok (.getfield 149, 3) := by decide +kernel
theorem dX5_plannedHours_26 : decode cX5_plannedHours 26 = .ok (.goto 5, 3) := by decide +kernel
theorem dX5_plannedHours_29 : decode cX5_plannedHours 29 = .ok (.ldc 68, 2) := by decide +kernel
theorem dX5_plannedHours_31 : decode cX5_plannedHours 31 = .ok (.ireturn, 1) := by decide +kernel
set_option maxRecDepth 20000 in
theorem ggX5_plannedInlet_X5_isBetween : GoodIn wsX5_plannedInlet wsX5_isBetween := goodIn_r _ [8] (by decide +kernel) (by decide +kernel)
set_option maxRecDepth 20000 in
theorem gX5_plannedInlet_X5_isBetween : GoodIn wsX5_plannedInlet (va_wsS RX5 62 yX5_isBetween wsX5_isBetween) := goodIn_app (goodIn_of _ (by decide +kernel)) ggX5_plannedInlet_X5_isBetween
set_option maxRecDepth 20000 in
theorem ggX5_plannedInlet_X5_findPlan : GoodIn wsX5_plannedInlet wsX5_findPlan := goodIn_r _ [12, 13, 14, 15, 16, 17, 18, 2, 3, 19, 20, 7, 21, 22, 23, 24, 25, 4, 26, 27, 28, 29, 30, 31, 32, 33, 34, 35, 36, 37, 38, 39, 40, 41, 42, 43, 44, 45, 46, 47, 48, 49, 50, 51, 52, 53, 54, 55, 56, 57, 58, 59, 60, 61, 62, 63, 64, 65, 66, 67, 68, 69, 70, 71, 72, 73, 74, 75, 76, 77, 78, 79, 80, 81, 82, 83, 84, 85, 86, 87, 88, 89, 90, 91, 92, 93, 94, 95, 96, 97, 98, 99] (by decide +kernel) (by decide +kernel)
set_option maxRecDepth 20000 in
theorem gX5_plannedInlet_X5_findPlan : GoodIn wsX5_plannedInlet (wsV RX5 155 RX5 yX5_findPlan wsX5_findPlan) := goodIn_app (goodIn_of _ (by decide +kernel)) ggX5_plannedInlet_X5_findPlan
theorem dX5_plannedInlet_0 : decode cX5_plannedInlet 0 = .ok (.iload_n 1, 1) := by decide +kernel
theorem dX5_plannedInlet_1 : decode cX5_plannedInlet 1 = .ok (.iconst 0, 1) := by decide +kernel
theorem dX5_plannedInlet_2 : decode cX5_plannedInlet 2 = .ok (.sipush 2000, 3) := by decide +kernel
theorem dX5_plannedInlet_5 : decode cX5_plannedInlet 5 = .ok (.invokestatic 62, 3) := by decide +kernel
theorem dX5_plannedInlet_8 : decode cX5_plannedInlet 8 = .ok (.ifCond .eq 7, 3) := by decide +kernel
theorem dX5_plannedInlet_11 : decode cX5_plannedInlet 11 = .ok (.iload_n 2, 1) := by decide +kernel
theorem dX5_plannedInlet_12 : decode cX5_plannedInlet 12 = .ok (.ifCond .ge 6, 3) := by decide +kernel
theorem dX5_plannedInlet_15 : decode cX5_plannedInlet 15 = .ok (.ldc 66, 2) := by decide +kernel
theorem dX5_plannedInlet_17 : decode cX5_plannedInlet 17 = .ok (.ireturn, 1) := by decide +kernel
theorem dX5_plannedInlet_18 : decode cX5_plannedInlet 18 = .ok (.aload_n 0, 1) := by decide +kernel
theorem dX5_plannedInlet_19 : decode cX5_plannedInlet 19 = .ok (.iload_n 1, 1) := by decide +kernel
theorem dX5_plannedInlet_20 : decode cX5_plannedInlet 20 = .ok (.invokevirtual 155, 3) := by decide +kernel
theorem dX5_plannedInlet_23 : decode cX5_plannedInlet 23 = .ok (.ifCond .eq 20, 3) := by decide +kernel
theorem dX5_plannedInlet_26 : decode cX5_plannedInlet 26 = .ok (.iload_n 2, 1) := by decide +kernel
theorem dX5_plannedInlet_27 : decode cX5_plannedInlet 27 = .ok (.aload_n 0, 1) := by decide +kernel
theorem dX5_plannedInlet_28 : decode cX5_plannedInlet 28 = .ok (.getfield 149, 3) := by decide +kernel
theorem dX5_plannedInlet_31 : decode cX5_plannedInlet 31 = .ok (.if_icmp .ge 12, 3) := by decide +kernel
theorem dX5_plannedInlet_34 : decode cX5_plannedInlet 34 = .ok (.aload_n 0, 1) := by decide +kernel
theorem dX5_plannedInlet_35 : decode cX5_plannedInlet 35 = .ok (.getfield 53, 3) := by decide +kernel
theorem dX5_plannedInlet_38 : decode cX5_plannedInlet 38 = .ok (.iload_n 2, 1) := by decide +kernel
theorem dX5_plannedInlet_39 : decode cX5_plannedInlet 39 = .ok (.iaload, 1) := by decide +kernel
theorem dX5_plannedInlet_40 : decode cX5_plannedInlet 40 = .ok (.goto 5, 3) := by decide +kernel
theorem dX5_plannedInlet_43 : decode cX5_plannedInlet 43 = .ok (.ldc 68, 2) := by decide +kernel
theorem dX5_plannedInlet_45 : decode cX5_plannedInlet 45 = .ok (.ireturn, 1) := by decide +kernel
theorem dJ6_bitCount_0f7a4_0 : decode cJ6_bitCount_0f7a4 0 = .ok (.iload_n 0, 1) := by decide +kernel

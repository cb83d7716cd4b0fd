set_option maxRecDepth 20000 in
theorem gX4_checkHour_X1_has : GoodIn wsX4_checkHour (wsV RX4 66 RX1 yX1_has wsX1_has) := goodIn_app (goodIn_of _ (by decide +kernel)) ggX4_checkHour_X1_has
set_option maxRecDepth 20000 in
theorem ggX4_checkHour_X1_boardAt : GoodIn wsX4_checkHour wsX1_boardAt := goodIn_r _ [19, 9, 20, 21, 22, 23, 13, 24, 15, 25, 26, 27, 28, 29, 30, 31, 32, 33, 34, 35, 36, 37, 49, 50, 51, 52, 53, 54] (by decide +kernel) (by decide +kernel)
set_option maxRecDepth 20000 in
theorem gX4_checkHour_X1_boardAt : GoodIn wsX4_checkHour (wsV RX4 71 RX1 yX1_boardAt wsX1_boardAt) := goodIn_app (goodIn_of _ (by decide +kernel)) ggX4_checkHour_X1_boardAt
theorem dX4_checkHour_0 : decode cX4_checkHour 0 = .ok (.aload_n 0, 1) := by decide +kernel
theorem dX4_checkHour_1 : decode cX4_checkHour 1 = .ok (.getfield 26, 3) := by decide +kernel
theorem dX4_checkHour_4 : decode cX4_checkHour 4 = .ok (.iload_n 1, 1) := by decide +kernel
theorem dX4_checkHour_5 : decode cX4_checkHour 5 = .ok (.invokevirtual 66, 3) := by decide +kernel
theorem dX4_checkHour_8 : decode cX4_checkHour 8 = .ok (.ifCond .eq 17, 3) := by decide +kernel
theorem dX4_checkHour_11 : decode cX4_checkHour 11 = .ok (.aload_n 0, 1) := by decide +kernel
theorem dX4_checkHour_12 : decode cX4_checkHour 12 = .ok (.getfield 26, 3) := by decide +kernel
theorem dX4_checkHour_15 : decode cX4_checkHour 15 = .ok (.iload_n 1, 1) := by decide +kernel
theorem dX4_checkHour_16 : decode cX4_checkHour 16 = .ok (.invokevirtual 71, 3) := by decide +kernel
theorem dX4_checkHour_19 : decode cX4_checkHour 19 = .ok (.getfield 85, 3) := by decide +kernel
theorem dX4_checkHour_22 : decode cX4_checkHour 22 = .ok (.goto 5, 3) := by decide +kernel
theorem dX4_checkHour_25 : decode cX4_checkHour 25 = .ok (.ldc 70, 2) := by decide +kernel
theorem dX4_checkHour_27 : decode cX4_checkHour 27 = .ok (.ireturn, 1) := by decide +kernel
set_option maxRecDepth 20000 in
theorem ggX4_wettestBoard_X1_wettest : GoodIn wsX4_wettestBoard wsX1_wettest := goodIn_r _ [6, 7, 8, 9, 10, 11, 12, 13, 14, 15, 16, 17, 18, 19, 20, 21, 22, 23, 24, 25, 26, 27, 28, 29, 30, 31, 32, 33, 34, 35, 36, 37, 38, 39, 40, 41, 42, 43, 44, 45, 54, 55, 56, 57, 58, 59, 60, 61, 62] (by decide +kernel) (by decide +kernel)
set_option maxRecDepth 20000 in
theorem gX4_wettestBoard_X1_wettest : GoodIn wsX4_wettestBoard (wsV RX4 88 RX1 yX1_wettest wsX1_wettest) := goodIn_app (goodIn_of _ (by decide +kernel)) ggX4_wettestBoard_X1_wettest
theorem dX4_wettestBoard_0 : decode cX4_wettestBoard 0 = .ok (.aload_n 0, 1) := by decide +kernel
theorem dX4_wettestBoard_1 : decode cX4_wettestBoard 1 = .ok (.getfield 26, 3) := by decide +kernel
theorem dX4_wettestBoard_4 : decode cX4_wettestBoard 4 = .ok (.invokevirtual 88, 3) := by decide +kernel
theorem dX4_wettestBoard_7 : decode cX4_wettestBoard 7 = .ok (.ireturn, 1) := by decide +kernel
set_option maxRecDepth 20000 in
theorem ggX4_totalWater_X1_water : GoodIn wsX4_totalWater wsX1_water := goodIn_r _ [6, 7, 8, 9, 10, 11, 12, 13, 14, 15, 16, 17, 18, 19, 20, 21, 22, 23, 24, 25, 26, 27, 28, 29, 30, 31, 32, 33, 34, 35, 36, 37, 46, 47, 48, 49, 50, 51, 52, 53, 54] (by decide +kernel) (by decide +kernel)
set_option maxRecDepth 20000 in
theorem gX4_totalWater_X1_water : GoodIn wsX4_totalWater (wsV RX4 91 RX1 yX1_water wsX1_water) := goodIn_app (goodIn_of _ (by decide +kernel)) ggX4_totalWater_X1_water
theorem dX4_totalWater_0 : decode cX4_totalWater 0 = .ok (.aload_n 0, 1) := by decide +kernel
theorem dX4_totalWater_1 : decode cX4_totalWater 1 = .ok (.getfield 26, 3) := by decide +kernel
theorem dX4_totalWater_4 : decode cX4_totalWater 4 = .ok (.invokevirtual 91, 3) := by decide +kernel
theorem dX4_totalWater_7 : decode cX4_totalWater 7 = .ok (.ireturn, 1) := by decide +kernel
set_option maxRecDepth 20000 in
theorem ggX4_sampleError_X1_size : GoodIn wsX4_sampleError wsX1_size := goodIn_r _ [7, 8, 9, 10, 11, 12, 13, 14, 65, 66, 67, 68, 69, 70] (by decide +kernel) (by decide +kernel)
set_option maxRecDepth 20000 in
theorem gX4_sampleError_X1_size : GoodIn wsX4_sampleError (wsV RX4 52 RX1 yX1_size wsX1_size) := goodIn_app (goodIn_of _ (by decide +kernel)) ggX4_sampleError_X1_size
set_option maxRecDepth 20000 in
theorem ggX4_sampleError_X1_meanOf : GoodIn wsX4_sampleError wsX1_meanOf := goodIn_r _ [18, 8, 19, 9, 10, 11, 12, 13, 14, 20, 21, 22, 23, 24, 25, 26, 27, 28, 29, 30, 31, 32, 33, 34, 35, 36, 37, 38, 39, 40, 41, 42, 43, 44, 45, 46, 47, 48, 49, 50, 51, 52, 53, 54, 55, 56, 65, 66, 67, 68, 69, 70, 71, 72, 73] (by decide +kernel) (by decide +kernel)
set_option maxRecDepth 20000 in
theorem gX4_sampleError_X1_meanOf : GoodIn wsX4_sampleError (wsV RX4 94 RX1 yX1_meanOf wsX1_meanOf) := goodIn_app (goodIn_of _ (by decide +kernel)) ggX4_sampleError_X1_meanOf
theorem dX4_sampleError_0 : decode cX4_sampleError 0 = .ok (.iconst 1, 1) := by decide +kernel
theorem dX4_sampleError_1 : decode cX4_sampleError 1 = .ok (.aload_n 0, 1) := by decide +kernel
theorem dX4_sampleError_2 : decode cX4_sampleError 2 = .ok (.getfield 26, 3) := by decide +kernel
theorem dX4_sampleError_5 : decode cX4_sampleError 5 = .ok (.invokevirtual 52, 3) := by decide +kernel
theorem dX4_sampleError_8 : decode cX4_sampleError 8 = .ok (.ishl, 1) := by decide +kernel
theorem dX4_sampleError_9 : decode cX4_sampleError 9 = .ok (.iconst 1, 1) := by decide +kernel
theorem dX4_sampleError_10 : decode cX4_sampleError 10 = .ok (.isub, 1) := by decide +kernel
theorem dX4_sampleError_11 : decode cX4_sampleError 11 = .ok (.istore_n 2, 1) := by decide +kernel
theorem dX4_sampleError_12 : decode cX4_sampleError 12 = .ok (.iload_n 1, 1) := by decide +kernel
theorem dX4_sampleError_13 : decode cX4_sampleError 13 = .ok (.ifCond .eq 11, 3) := by decide +kernel
theorem dX4_sampleError_16 : decode cX4_sampleError 16 = .ok (.iload_n 1, 1) := by decide +kernel
theorem dX4_sampleError_17 : decode cX4_sampleError 17 = .ok (.iload_n 2, 1) := by decide +kernel
theorem dX4_sampleError_18 : decode cX4_sampleError 18 = .ok (.iconst (-1), 1) := by decide +kernel
theorem dX4_sampleError_19 : decode cX4_sampleError 19 = .ok (.ixor, 1) := by decide +kernel
theorem dX4_sampleError_20 : decode cX4_sampleError 20 = .ok (.iand, 1) := by decide +kernel
theorem dX4_sampleError_21 : decode cX4_sampleError 21 = .ok (.ifCond .eq 6, 3) := by decide +kernel
theorem dX4_sampleError_24 : decode cX4_sampleError 24 = .ok (.ldc 51, 2) := by decide +kernel
theorem dX4_sampleError_26 : decode cX4_sampleError 26 = .ok (.ireturn, 1) := by decide +kernel
theorem dX4_sampleError_27 : decode cX4_sampleError 27 = .ok (.aload_n 0, 1) := by decide +kernel
theorem dX4_sampleError_28 : decode cX4_sampleError 28 = .ok (.getfield 26, 3) := by decide +kernel
theorem dX4_sampleError_31 : decode cX4_sampleError 31 = .ok (.iload_n 1, 1) := by decide +kernel
theorem dX4_sampleError_32 : decode cX4_sampleError 32 = .ok (.invokevirtual 94, 3) := by decide +kernel
theorem dX4_sampleError_35 : decode cX4_sampleError 35 = .ok (.aload_n 0, 1) := by decide +kernel
theorem dX4_sampleError_36 : decode cX4_sampleError 36 = .ok (.getfield 26, 3) := by decide +kernel
theorem dX4_sampleError_39 : decode cX4_sampleError 39 = .ok (.iload_n 2, 1) := by decide +kernel
theorem dX4_sampleError_40 : decode cX4_sampleError 40 = .ok (.invokevirtual 94, 3) := by decide +kernel
theorem dX4_sampleError_43 : decode cX4_sampleError 43 = .ok (.isub, 1) := by decide +kernel
theorem dX4_sampleError_44 : decode cX4_sampleError 44 = .ok (.ireturn, 1) := by decide +kernel
set_option maxRecDepth 20000 in
theorem ggX4_setDiffusion_X4_isOutside : GoodIn wsX4_setDiffusion wsX4_isOutside := goodIn_r _ [7] (by decide +kernel) (by decide +kernel)
set_option maxRecDepth 20000 in
theorem gX4_setDiffusion_X4_isOutside : GoodIn wsX4_setDiffusion (va_wsS RX4 47 yX4_isOutside wsX4_isOutside) := goodIn_app (goodIn_of _ (by decide +kernel)) ggX4_setDiffusion_X4_isOutside
theorem dX4_setDiffusion_0 : decode cX4_setDiffusion 0 = .ok (.iload_n 1, 1) := by decide +kernel
theorem dX4_setDiffusion_1 : decode cX4_setDiffusion 1 = .ok (.iconst 1, 1) := by decide +kernel
theorem dX4_setDiffusion_2 : decode cX4_setDiffusion 2 = .ok (.sipush 250, 3) := by decide +kernel
theorem dX4_setDiffusion_5 : decode cX4_setDiffusion 5 = .ok (.invokestatic 47, 3) := by decide +kernel
theorem dX4_setDiffusion_8 : decode cX4_setDiffusion 8 = .ok (.ifCond .eq 6, 3) := by decide +kernel
theorem dX4_setDiffusion_11 : decode cX4_setDiffusion 11 = .ok (.ldc 51, 2) := by decide +kernel
theorem dX4_setDiffusion_13 : decode cX4_setDiffusion 13 = .ok (.ireturn, 1) := by decide +kernel
theorem dX4_setDiffusion_14 : decode cX4_setDiffusion 14 = .ok (.aload_n 0, 1) := by decide +kernel
theorem dX4_setDiffusion_15 : decode cX4_setDiffusion 15 = .ok (.getfield 10, 3) := by decide +kernel
theorem dX4_setDiffusion_18 : decode cX4_setDiffusion 18 = .ok (.getfield 98, 3) := by decide +kernel
theorem dX4_setDiffusion_21 : decode cX4_setDiffusion 21 = .ok (.istore_n 2, 1) := by decide +kernel
theorem dX4_setDiffusion_22 : decode cX4_setDiffusion 22 = .ok (.aload_n 0, 1) := by decide +kernel
theorem dX4_setDiffusion_23 : decode cX4_setDiffusion 23 = .ok (.getfield 10, 3) := by decide +kernel
theorem dX4_setDiffusion_26 : decode cX4_setDiffusion 26 = .ok (.iload_n 1, 1) := by decide +kernel
theorem dX4_setDiffusion_27 : decode cX4_setDiffusion 27 = .ok (.putfield 98, 3) := by decide +kernel
theorem dX4_setDiffusion_30 : decode cX4_setDiffusion 30 = .ok (.iload_n 2, 1) := by decide +kernel
theorem dX4_setDiffusion_31 : decode cX4_setDiffusion 31 = .ok (.ireturn, 1) := by decide +kernel
set_option maxRecDepth 20000 in
theorem ggX4_setSurface_X4_isOutside : GoodIn wsX4_setSurface wsX4_isOutside := goodIn_r _ [7] (by decide +kernel) (by decide +kernel)
set_option maxRecDepth 20000 in
theorem gX4_setSurface_X4_isOutside : GoodIn wsX4_setSurface (va_wsS RX4 47 yX4_isOutside wsX4_isOutside) := goodIn_app (goodIn_of _ (by decide +kernel)) ggX4_setSurface_X4_isOutside
theorem dX4_setSurface_0 : decode cX4_setSurface 0 = .ok (.iload_n 1, 1) := by decide +kernel
theorem dX4_setSurface_1 : decode cX4_setSurface 1 = .ok (.iconst 1, 1) := by decide +kernel
theorem dX4_setSurface_2 : decode cX4_setSurface 2 = .ok (.sipush 500, 3) := by decide +kernel
theorem dX4_setSurface_5 : decode cX4_setSurface 5 = .ok (.invokestatic 47, 3) := by decide +kernel
theorem dX4_setSurface_8 : decode cX4_setSurface 8 = .ok (.ifCond .eq 6, 3) := by decide +kernel
theorem dX4_setSurface_11 : decode cX4_setSurface 11 = .ok (.ldc 51, 2) := by decide +kernel
theorem dX4_setSurface_13 : decode cX4_setSurface 13 = .ok (.ireturn, 1) := by decide +kernel
theorem dX4_setSurface_14 : decode cX4_setSurface 14 = .ok (.aload_n 0, 1) := by decide +kernel
theorem dX4_setSurface_15 : decode cX4_setSurface 15 = .ok (.getfield 10, 3) := by decide +kernel
theorem dX4_setSurface_18 : decode cX4_setSurface 18 = .ok (.getfield 101, 3) := by decide +kernel
theorem dX4_setSurface_21 : decode cX4_setSurface 21 = .ok (.istore_n 2, 1) := by decide +kernel
theorem dX4_setSurface_22 : decode cX4_setSurface 22 = .ok (.aload_n 0, 1) := by decide +kernel
theorem dX4_setSurface_23 : decode cX4_setSurface 23 = .ok (.getfield 10, 3) := by decide +kernel
theorem dX4_setSurface_26 : decode cX4_setSurface 26 = .ok (.iload_n 1, 1) := by decide +kernel
theorem dX4_setSurface_27 : decode cX4_setSurface 27 = .ok (.putfield 101, 3) := by decide +kernel
theorem dX4_setSurface_30 : decode cX4_setSurface 30 = .ok (.iload_n 2, 1) := by decide +kernel
theorem dX4_setSurface_31 : decode cX4_setSurface 31 = .ok (.ireturn, 1) := by decide +kernel
set_option maxRecDepth 20000 in
theorem ggX4_setCapacity_X4_isOutside : GoodIn wsX4_setCapacity wsX4_isOutside := goodIn_r _ [7] (by decide +kernel) (by decide +kernel)
set_option maxRecDepth 20000 in
theorem gX4_setCapacity_X4_isOutside : GoodIn wsX4_setCapacity (va_wsS RX4 47 yX4_isOutside wsX4_isOutside) := goodIn_app (goodIn_of _ (by decide +kernel)) ggX4_setCapacity_X4_isOutside
theorem dX4_setCapacity_0 : decode cX4_setCapacity 0 = .ok (.iload_n 1, 1) := by decide +kernel
theorem dX4_setCapacity_1 : decode cX4_setCapacity 1 = .ok (.iconst 1, 1) := by decide +kernel
theorem dX4_setCapacity_2 : decode cX4_setCapacity 2 = .ok (.sipush 10000, 3) := by decide +kernel
theorem dX4_setCapacity_5 : decode cX4_setCapacity 5 = .ok (.invokestatic 47, 3) := by decide +kernel
theorem dX4_setCapacity_8 : decode cX4_setCapacity 8 = .ok (.ifCond .eq 6, 3) := by decide +kernel
theorem dX4_setCapacity_11 : decode cX4_setCapacity 11 = .ok (.ldc 51, 2) := by decide +kernel
theorem dX4_setCapacity_13 : decode cX4_setCapacity 13 = .ok (.ireturn, 1) := by decide +kernel
theorem dX4_setCapacity_14 : decode cX4_setCapacity 14 = .ok (.aload_n 0, 1) := by decide +kernel
theorem dX4_setCapacity_15 : decode cX4_setCapacity 15 = .ok (.getfield 10, 3) := by decide +kernel
theorem dX4_setCapacity_18 : decode cX4_setCapacity 18 = .ok (.getfield 104, 3) := by decide +kernel
theorem dX4_setCapacity_21 : decode cX4_setCapacity 21 = .ok (.istore_n 2, 1) := by decide +kernel
theorem dX4_setCapacity_22 : decode cX4_setCapacity 22 = .ok (.aload_n 0, 1) := by decide +kernel
theorem dX4_setCapacity_23 : decode cX4_setCapacity 23 = .ok (.getfield 10, 3) := by decide +kernel
theorem dX4_setCapacity_26 : decode cX4_setCapacity 26 = .ok (.iload_n 1, 1) := by decide +kernel
theorem dX4_setCapacity_27 : decode cX4_setCapacity 27 = .ok (.putfield 104, 3) := by decide +kernel
theorem dX4_setCapacity_30 : decode cX4_setCapacity 30 = .ok (.iload_n 2, 1) := by decide +kernel
theorem dX4_setCapacity_31 : decode cX4_setCapacity 31 = .ok (.ireturn, 1) := by decide +kernel
set_option maxRecDepth 20000 in
theorem ggX4_setStrainLimit_X4_isOutside : GoodIn wsX4_setStrainLimit wsX4_isOutside := goodIn_r _ [7] (by decide +kernel) (by decide +kernel)
set_option maxRecDepth 20000 in
theorem gX4_setStrainLimit_X4_isOutside : GoodIn wsX4_setStrainLimit (va_wsS RX4 47 yX4_isOutside wsX4_isOutside) := goodIn_app (goodIn_of _ (by decide +kernel)) ggX4_setStrainLimit_X4_isOutside
theorem dX4_setStrainLimit_0 : decode cX4_setStrainLimit 0 = .ok (.iload_n 1, 1) := by decide +kernel
theorem dX4_setStrainLimit_1 : decode cX4_setStrainLimit 1 = .ok (.bipush 20, 2) := by decide +kernel
theorem dX4_setStrainLimit_3 : decode cX4_setStrainLimit 3 = .ok (.sipush 900, 3) := by decide +kernel
theorem dX4_setStrainLimit_6 : decode cX4_setStrainLimit 6 = .ok (.invokestatic 47, 3) := by decide +kernel
theorem dX4_setStrainLimit_9 : decode cX4_setStrainLimit 9 = .ok (.ifCond .eq 6, 3) := by decide +kernel
theorem dX4_setStrainLimit_12 : decode cX4_setStrainLimit 12 = .ok (.ldc 51, 2) := by decide +kernel
theorem dX4_setStrainLimit_14 : decode cX4_setStrainLimit 14 = .ok (.ireturn, 1) := by decide +kernel
theorem dX4_setStrainLimit_15 : decode cX4_setStrainLimit 15 = .ok (.aload_n 0, 1) := by decide +kernel
theorem dX4_setStrainLimit_16 : decode cX4_setStrainLimit 16 = .ok (.getfield 10, 3) := by decide +kernel
theorem dX4_setStrainLimit_19 : decode cX4_setStrainLimit 19 = .ok (.getfield 107, 3) := by decide +kernel
theorem dX4_setStrainLimit_22 : decode cX4_setStrainLimit 22 = .ok (.istore_n 2, 1) := by decide +kernel
theorem dX4_setStrainLimit_23 : decode cX4_setStrainLimit 23 = .ok (.aload_n 0, 1) := by decide +kernel
theorem dX4_setStrainLimit_24 : decode cX4_setStrainLimit 24 = .ok (.getfield 10, 3) := by decide +kernel
theorem dX4_setStrainLimit_27 : decode cX4_setStrainLimit 27 = .ok (.iload_n 1, 1) := by decide +kernel
theorem dX4_setStrainLimit_28 : decode cX4_setStrainLimit 28 = .ok (.putfield 107, 3) := by decide +kernel
theorem dX4_setStrainLimit_31 : decode cX4_setStrainLimit 31 = .ok (.iload_n 2, 1) := by decide +kernel
theorem dX4_setStrainLimit_32 : decode cX4_setStrainLimit 32 = .ok (.ireturn, 1) := by decide +kernel
set_option maxRecDepth 20000 in
theorem ggX4_setHumidity_X4_isOutside : GoodIn wsX4_setHumidity wsX4_isOutside := goodIn_r _ [7] (by decide +kernel) (by decide +kernel)
set_option maxRecDepth 20000 in
theorem gX4_setHumidity_X4_isOutside : GoodIn wsX4_setHumidity (va_wsS RX4 47 yX4_isOutside wsX4_isOutside) := goodIn_app (goodIn_of _ (by decide +kernel)) ggX4_setHumidity_X4_isOutside
theorem dX4_setHumidity_0 : decode cX4_setHumidity 0 = .ok (.iload_n 1, 1) := by decide +kernel
theorem dX4_setHumidity_1 : decode cX4_setHumidity 1 = .ok (.iconst 0, 1) := by decide +kernel
theorem dX4_setHumidity_2 : decode cX4_setHumidity 2 = .ok (.sipush 300, 3) := by decide +kernel
theorem dX4_setHumidity_5 : decode cX4_setHumidity 5 = .ok (.invokestatic 47, 3) := by decide +kernel
theorem dX4_setHumidity_8 : decode cX4_setHumidity 8 = .ok (.ifCond .eq 6, 3) := by decide +kernel
theorem dX4_setHumidity_11 : decode cX4_setHumidity 11 = .ok (.ldc 51, 2) := by decide +kernel
theorem dX4_setHumidity_13 : decode cX4_setHumidity 13 = .ok (.ireturn, 1) := by decide +kernel
theorem dX4_setHumidity_14 : decode cX4_setHumidity 14 = .ok (.aload_n 0, 1) := by decide +kernel
theorem dX4_setHumidity_15 : decode cX4_setHumidity 15 = .ok (.getfield 10, 3) := by decide +kernel
theorem dX4_setHumidity_18 : decode cX4_setHumidity 18 = .ok (.getfield 110, 3) := by decide +kernel
theorem dX4_setHumidity_21 : decode cX4_setHumidity 21 = .ok (.istore_n 2, 1) := by decide +kernel
theorem dX4_setHumidity_22 : decode cX4_setHumidity 22 = .ok (.aload_n 0, 1) := by decide +kernel
theorem dX4_setHumidity_23 : decode cX4_setHumidity 23 = .ok (.getfield 10, 3) := by decide +kernel
theorem dX4_setHumidity_26 : decode cX4_setHumidity 26 = .ok (.iload_n 1, 1) := by decide +kernel
theorem dX4_setHumidity_27 : decode cX4_setHumidity 27 = .ok (.putfield 110, 3) := by decide +kernel
theorem dX4_setHumidity_30 : decode cX4_setHumidity 30 = .ok (.iload_n 2, 1) := by decide +kernel
theorem dX4_setHumidity_31 : decode cX4_setHumidity 31 = .ok (.ireturn, 1) := by decide +kernel
theorem dX4_setFan_0 : decode cX4_setFan 0 = .ok (.aload_n 0, 1) := by decide +kernel
theorem dX4_setFan_1 : decode cX4_setFan 1 = .ok (.getfield 26, 3) := by decide +kernel
theorem dX4_setFan_4 : decode cX4_setFan 4 = .ok (.getfield 113, 3) := by decide +kernel
theorem dX4_setFan_7 : decode cX4_setFan 7 = .ok (.iload_n 1, 1) := by decide +kernel
theorem dX4_setFan_8 : decode cX4_setFan 8 = .ok (.if_icmp .eq 7, 3) := by decide +kernel
theorem dX4_setFan_11 : decode cX4_setFan 11 = .ok (.iconst 1, 1) := by decide +kernel
theorem dX4_setFan_12 : decode cX4_setFan 12 = .ok (.goto 4, 3) := by decide +kernel
theorem dX4_setFan_15 : decode cX4_setFan 15 = .ok (.iconst 0, 1) := by decide +kernel
theorem dX4_setFan_16 : decode cX4_setFan 16 = .ok (.istore_n 2, 1) := by decide +kernel
theorem dX4_setFan_17 : decode cX4_setFan 17 = .ok (.aload_n 0, 1) := by decide +kernel
theorem dX4_setFan_18 : decode cX4_setFan 18 = .ok (.getfield 26, 3) := by decide +kernel
theorem dX4_setFan_21 : decode cX4_setFan 21 = .ok (.iload_n 1, 1) := by decide +kernel
theorem dX4_setFan_22 : decode cX4_setFan 22 = .ok (.putfield 113, 3) := by decide +kernel
theorem dX4_setFan_25 : decode cX4_setFan 25 = .ok (.iload_n 2, 1) := by decide +kernel
theorem dX4_setFan_26 : decode cX4_setFan 26 = .ok (.ifCond .eq 7, 3) := by decide +kernel
theorem dX4_setFan_29 : decode cX4_setFan 29 = .ok (.iconst 1, 1) := by decide +kernel
theorem dX4_setFan_30 : decode cX4_setFan 30 = .ok (.goto 4, 3) := by decide +kernel
theorem dX4_setFan_33 : decode cX4_setFan 33 = .ok (.iconst 0, 1) := by decide +kernel
theorem dX4_setFan_34 : decode cX4_setFan 34 = .ok (.ireturn, 1) := by decide +kernel
theorem dX4_isFanReversed_0 : decode cX4_isFanReversed 0 = .ok (.aload_n 0, 1) := by decide +kernel
theorem dX4_isFanReversed_1 : decode cX4_isFanReversed 1 = .ok (.getfield 26, 3) := by decide +kernel
theorem dX4_isFanReversed_4 : decode cX4_isFanReversed 4 = .ok (.getfield 113, 3) := by decide +kernel
theorem dX4_isFanReversed_7 : decode cX4_isFanReversed 7 = .ok (.ifCond .eq 7, 3) := by decide +kernel
theorem dX4_isFanReversed_10 : decode cX4_isFanReversed 10 = .ok (.iconst 1, 1) := by decide +kernel
theorem dX4_isFanReversed_11 : decode cX4_isFanReversed 11 = .ok (.goto 4, 3) := by decide +kernel
theorem dX4_isFanReversed_14 : decode cX4_isFanReversed 14 = .ok (.iconst 0, 1) := by decide +kernel
theorem dX4_isFanReversed_15 : decode cX4_isFanReversed 15 = .ok (.ireturn, 1) := by decide +kernel
set_option maxRecDepth 20000 in
theorem ggX4_setReversalPeriod_X4_isOutside : GoodIn wsX4_setReversalPeriod wsX4_isOutside := goodIn_r _ [7] (by decide +kernel) (by decide +kernel)
set_option maxRecDepth 20000 in
theorem gX4_setReversalPeriod_X4_isOutside : GoodIn wsX4_setReversalPeriod (va_wsS RX4 47 yX4_isOutside wsX4_isOutside) := goodIn_app (goodIn_of _ (by decide +kernel)) ggX4_setReversalPeriod_X4_isOutside
theorem dX4_setReversalPeriod_0 : decode cX4_setReversalPeriod 0 = .ok (.iload_n 1, 1) := by decide +kernel
theorem dX4_setReversalPeriod_1 : decode cX4_setReversalPeriod 1 = .ok (.iconst 0, 1) := by decide +kernel
theorem dX4_setReversalPeriod_2 : decode cX4_setReversalPeriod 2 = .ok (.bipush 48, 2) := by decide +kernel
theorem dX4_setReversalPeriod_4 : decode cX4_setReversalPeriod 4 = .ok (.invokestatic 47, 3) := by decide +kernel
theorem dX4_setReversalPeriod_7 : decode cX4_setReversalPeriod 7 = .ok (.ifCond .eq 6, 3) := by decide +kernel
theorem dX4_setReversalPeriod_10 : decode cX4_setReversalPeriod 10 = .ok (.ldc 51, 2) := by decide +kernel
theorem dX4_setReversalPeriod_12 : decode cX4_setReversalPeriod 12 = .ok (.ireturn, 1) := by decide +kernel
theorem dX4_setReversalPeriod_13 : decode cX4_setReversalPeriod 13 = .ok (.aload_n 0, 1) := by decide +kernel
theorem dX4_setReversalPeriod_14 : decode cX4_setReversalPeriod 14 = .ok (.getfield 10, 3) := by decide +kernel
theorem dX4_setReversalPeriod_17 : decode cX4_setReversalPeriod 17 = .ok (.getfield 117, 3) := by decide +kernel
theorem dX4_setReversalPeriod_20 : decode cX4_setReversalPeriod 20 = .ok (.istore_n 2, 1) := by decide +kernel
theorem dX4_setReversalPeriod_21 : decode cX4_setReversalPeriod 21 = .ok (.aload_n 0, 1) := by decide +kernel
theorem dX4_setReversalPeriod_22 : decode cX4_setReversalPeriod 22 = .ok (.getfield 10, 3) := by decide +kernel
theorem dX4_setReversalPeriod_25 : decode cX4_setReversalPeriod 25 = .ok (.iload_n 1, 1) := by decide +kernel
theorem dX4_setReversalPeriod_26 : decode cX4_setReversalPeriod 26 = .ok (.putfield 117, 3) := by decide +kernel
theorem dX4_setReversalPeriod_29 : decode cX4_setReversalPeriod 29 = .ok (.iload_n 2, 1) := by decide +kernel
theorem dX4_setReversalPeriod_30 : decode cX4_setReversalPeriod 30 = .ok (.ireturn, 1) := by decide +kernel
set_option maxRecDepth 20000 in
theorem ggX4_dry_X4_isOutside : GoodIn wsX4_dry wsX4_isOutside := goodIn_r _ [7] (by decide +kernel) (by decide +kernel)
set_option maxRecDepth 20000 in
theorem gX4_dry_X4_isOutside : GoodIn wsX4_dry (va_wsS RX4 47 yX4_isOutside wsX4_isOutside) := goodIn_app (goodIn_of _ (by decide +kernel)) ggX4_dry_X4_isOutside
set_option maxRecDepth 20000 in
theorem ggX4_dry_X4_runDryingHour : GoodIn wsX4_dry wsX4_runDryingHour := goodIn_r _ [11, 12, 2, 13, 14, 15, 16, 17, 18, 19, 20, 21, 22, 23, 24, 25, 26, 27, 28, 29, 30, 31, 32, 33, 34, 6, 35, 36, 37, 38, 39, 40, 41, 42, 43, 44, 45, 46, 47, 48, 49, 50, 51, 52, 53, 54, 55, 56, 57, 58, 59, 60, 61, 62, 63, 64, 65, 66, 67, 68, 69, 70, 71, 72, 73, 74, 75, 76, 77, 78, 79, 80, 81, 82, 83, 84, 85, 86, 87, 88, 89, 90, 91, 92, 93, 94, 95, 96, 97, 98, 105, 106, 107, 99, 100, 101, 102, 103, 104, 108, 109, 110, 111, 112, 113] (by decide +kernel) (by decide +kernel)
set_option maxRecDepth 20000 in
theorem gX4_dry_X4_runDryingHour : GoodIn wsX4_dry (wsV RX4 120 RX4 yX4_runDryingHour wsX4_runDryingHour) := goodIn_app (goodIn_of _ (by decide +kernel)) ggX4_dry_X4_runDryingHour
theorem dX4_dry_0 : decode cX4_dry 0 = .ok (.iload_n 1, 1) := by decide +kernel
theorem dX4_dry_1 : decode cX4_dry 1 = .ok (.iconst 1, 1) := by decide +kernel
theorem dX4_dry_2 : decode cX4_dry 2 = .ok (.sipush 200, 3) := by decide +kernel
theorem dX4_dry_5 : decode cX4_dry 5 = .ok (.invokestatic 47, 3) := by decide +kernel
theorem dX4_dry_8 : decode cX4_dry 8 = .ok (.ifCond .eq 6, 3) := by decide +kernel
theorem dX4_dry_11 : decode cX4_dry 11 = .ok (.ldc 51, 2) := by decide +kernel
theorem dX4_dry_13 : decode cX4_dry 13 = .ok (.ireturn, 1) := by decide +kernel
theorem dX4_dry_14 : decode cX4_dry 14 = .ok (.iconst 0, 1) := by decide +kernel
theorem dX4_dry_15 : decode cX4_dry 15 = .ok (.istore_n 2, 1) := by decide +kernel
theorem dX4_dry_16 : decode cX4_dry 16 = .ok (.iconst 0, 1) := by decide +kernel
theorem dX4_dry_17 : decode cX4_dry 17 = .ok (.istore_n 3, 1) := by decide +kernel
theorem dX4_dry_18 : decode cX4_dry 18 = .ok (.iload_n 3, 1) := by decide +kernel
theorem dX4_dry_19 : decode cX4_dry 19 = .ok (.iload_n 1, 1) := by decide +kernel
theorem dX4_dry_20 : decode cX4_dry 20 = .ok (.if_icmp .ge 23, 3) := by decide +kernel
theorem dX4_dry_23 : decode cX4_dry 23 = .ok (.iload_n 2, 1) := by decide +kernel
theorem dX4_dry_24 : decode cX4_dry 24 = .ok (.aload_n 0, 1) := by decide +kernel
theorem dX4_dry_25 : decode cX4_dry 25 = .ok (.aload_n 0, 1) := by decide +kernel
theorem dX4_dry_26 : decode cX4_dry 26 = .ok (.getfield 10, 3) := by decide +kernel
theorem dX4_dry_29 : decode cX4_dry 29 = .ok (.getfield 110, 3) := by decide +kernel
theorem dX4_dry_32 : decode cX4_dry 32 = .ok (.invokevirtual 120, 3) := by decide +kernel
theorem dX4_dry_35 : decode cX4_dry 35 = .ok (.iadd, 1) := by decide +kernel
theorem dX4_dry_36 : decode cX4_dry 36 = .ok (.istore_n 2, 1) := by decide +kernel
theorem dX4_dry_37 : decode cX4_dry 37 = .ok (.iinc 3 1, 3) := by decide +kernel
theorem dX4_dry_40 : decode cX4_dry 40 = .ok (.goto (-22), 3) := by decide +kernel
theorem dX4_dry_43 : decode cX4_dry 43 = .ok (.iload_n 2, 1) := by decide +kernel
theorem dX4_dry_44 : decode cX4_dry 44 = .ok (.ireturn, 1) := by decide +kernel
set_option maxRecDepth 20000 in
theorem ggX4_rest_X4_isOutside : GoodIn wsX4_rest wsX4_isOutside := goodIn_r _ [7] (by decide +kernel) (by decide +kernel)
set_option maxRecDepth 20000 in
theorem gX4_rest_X4_isOutside : GoodIn wsX4_rest (va_wsS RX4 47 yX4_isOutside wsX4_isOutside) := goodIn_app (goodIn_of _ (by decide +kernel)) ggX4_rest_X4_isOutside
set_option maxRecDepth 20000 in
theorem ggX4_rest_X1_passRestHour : GoodIn wsX4_rest wsX1_passRestHour := goodIn_r _ [12, 13, 14, 15, 16, 17, 18, 19, 20, 21, 22, 23, 24, 25, 26, 27, 28, 29, 30, 31, 32, 33, 34, 35, 36, 37, 38, 39, 40, 41, 42, 43, 44, 45, 46, 47, 48, 80, 81, 82, 83, 84, 85, 86, 87, 88, 89, 90, 91, 92, 93, 94] (by decide +kernel) (by decide +kernel)
set_option maxRecDepth 20000 in
theorem gX4_rest_X1_passRestHour : GoodIn wsX4_rest (wsV RX4 123 RX1 yX1_passRestHour wsX1_passRestHour) := goodIn_app (goodIn_of _ (by decide +kernel)) ggX4_rest_X1_passRestHour
set_option maxRecDepth 20000 in
theorem ggX4_rest_X4_endHour : GoodIn wsX4_rest wsX4_endHour := goodIn_r _ [52, 53, 2, 3, 54, 55, 56, 57, 11, 58, 13, 14, 59, 60, 16, 17, 18, 19, 20, 21, 22, 23, 24, 25, 26, 27, 28, 29, 30, 31, 32, 33, 34, 35, 36, 37, 38, 61, 62, 63, 42, 64, 48, 65, 66, 67, 68, 69, 70, 71, 72, 73, 74, 75, 76, 77, 78, 79, 83, 84, 85, 86, 87, 88, 80, 81, 82, 92, 93, 94, 89, 90, 91] (by decide +kernel) (by decide +kernel)
set_option maxRecDepth 20000 in
theorem gX4_rest_X4_endHour : GoodIn wsX4_rest (wsV RX4 127 RX4 yX4_endHour wsX4_endHour) := goodIn_app (goodIn_of _ (by decide +kernel)) ggX4_rest_X4_endHour
theorem dX4_rest_0 : decode cX4_rest 0 = .ok (.iload_n 1, 1) := by decide +kernel
theorem dX4_rest_1 : decode cX4_rest 1 = .ok (.iconst 1, 1) := by decide +kernel
theorem dX4_rest_2 : decode cX4_rest 2 = .ok (.sipush 200, 3) := by decide +kernel
theorem dX4_rest_5 : decode cX4_rest 5 = .ok (.invokestatic 47, 3) := by decide +kernel
theorem dX4_rest_8 : decode cX4_rest 8 = .ok (.ifCond .eq 6, 3) := by decide +kernel
theorem dX4_rest_11 : decode cX4_rest 11 = .ok (.ldc 51, 2) := by decide +kernel
theorem dX4_rest_13 : decode cX4_rest 13 = .ok (.ireturn, 1) := by decide +kernel
theorem dX4_rest_14 : decode cX4_rest 14 = .ok (.iconst 0, 1) := by decide +kernel
theorem dX4_rest_15 : decode cX4_rest 15 = .ok (.istore_n 2, 1) := by decide +kernel
theorem dX4_rest_16 : decode cX4_rest 16 = .ok (.iconst 0, 1) := by decide +kernel
theorem dX4_rest_17 : decode cX4_rest 17 = .ok (.istore_n 3, 1) := by decide +kernel
theorem dX4_rest_18 : decode cX4_rest 18 = .ok (.iload_n 3, 1) := by decide +kernel
theorem dX4_rest_19 : decode cX4_rest 19 = .ok (.iload_n 1, 1) := by decide +kernel
theorem dX4_rest_20 : decode cX4_rest 20 = .ok (.if_icmp .ge 27, 3) := by decide +kernel
theorem dX4_rest_23 : decode cX4_rest 23 = .ok (.aload_n 0, 1) := by decide +kernel
theorem dX4_rest_24 : decode cX4_rest 24 = .ok (.getfield 26, 3) := by decide +kernel
theorem dX4_rest_27 : decode cX4_rest 27 = .ok (.aload_n 0, 1) := by decide +kernel
theorem dX4_rest_28 : decode cX4_rest 28 = .ok (.getfield 10, 3) := by decide +kernel
theorem dX4_rest_31 : decode cX4_rest 31 = .ok (.invokevirtual 123, 3) := by decide +kernel
theorem dX4_rest_34 : decode cX4_rest 34 = .ok (.iload_n 2, 1) := by decide +kernel
theorem dX4_rest_35 : decode cX4_rest 35 = .ok (.aload_n 0, 1) := by decide +kernel
theorem dX4_rest_36 : decode cX4_rest 36 = .ok (.invokevirtual 127, 3) := by decide +kernel
theorem dX4_rest_39 : decode cX4_rest 39 = .ok (.iadd, 1) := by decide +kernel
theorem dX4_rest_40 : decode cX4_rest 40 = .ok (.istore_n 2, 1) := by decide +kernel
theorem dX4_rest_41 : decode cX4_rest 41 = .ok (.iinc 3 1, 3) := by decide +kernel
theorem dX4_rest_44 : decode cX4_rest 44 = .ok (.goto (-26), 3) := by decide +kernel
theorem dX4_rest_47 : decode cX4_rest 47 = .ok (.iload_n 2, 1) := by decide +kernel
theorem dX4_rest_48 : decode cX4_rest 48 = .ok (.ireturn, 1) := by decide +kernel
theorem dX4_hour_0 : decode cX4_hour 0 = .ok (.aload_n 0, 1) := by decide +kernel
theorem dX4_hour_1 : decode cX4_hour 1 = .ok (.getfield 40, 3) := by decide +kernel
theorem dX4_hour_4 : decode cX4_hour 4 = .ok (.ireturn, 1) := by decide +kernel
theorem dX4_evaporated_0 : decode cX4_evaporated 0 = .ok (.aload_n 0, 1) := by decide +kernel
theorem dX4_evaporated_1 : decode cX4_evaporated 1 = .ok (.getfield 44, 3) := by decide +kernel
theorem dX4_evaporated_4 : decode cX4_evaporated 4 = .ok (.ireturn, 1) := by decide +kernel
set_option maxRecDepth 20000 in
theorem ggX4_airMoisture_X1_has : GoodIn wsX4_airMoisture wsX1_has := goodIn_r _ [8, 9, 10, 11, 12, 13, 14, 15, 49, 50, 51, 52, 53, 54] (by decide +kernel) (by decide +kernel)
set_option maxRecDepth 20000 in
theorem gX4_airMoisture_X1_has : GoodIn wsX4_airMoisture (wsV RX4 66 RX1 yX1_has wsX1_has) := goodIn_app (goodIn_of _ (by decide +kernel)) ggX4_airMoisture_X1_has
set_option maxRecDepth 20000 in
theorem ggX4_airMoisture_X1_boardAt : GoodIn wsX4_airMoisture wsX1_boardAt := goodIn_r _ [19, 9, 20, 21, 22, 23, 13, 24, 15, 25, 26, 27, 28, 29, 30, 31, 32, 33, 34, 35, 36, 37, 49, 50, 51, 52, 53, 54] (by decide +kernel) (by decide +kernel)
set_option maxRecDepth 20000 in
theorem gX4_airMoisture_X1_boardAt : GoodIn wsX4_airMoisture (wsV RX4 71 RX1 yX1_boardAt wsX1_boardAt) := goodIn_app (goodIn_of _ (by decide +kernel)) ggX4_airMoisture_X1_boardAt
theorem dX4_airMoisture_0 : decode cX4_airMoisture 0 = .ok (.aload_n 0, 1) := by decide +kernel
theorem dX4_airMoisture_1 : decode cX4_airMoisture 1 = .ok (.getfield 26, 3) := by decide +kernel
theorem dX4_airMoisture_4 : decode cX4_airMoisture 4 = .ok (.iload_n 1, 1) := by decide +kernel
theorem dX4_airMoisture_5 : decode cX4_airMoisture 5 = .ok (.invokevirtual 66, 3) := by decide +kernel
theorem dX4_airMoisture_8 : decode cX4_airMoisture 8 = .ok (.ifCond .eq 17, 3) := by decide +kernel
theorem dX4_airMoisture_11 : decode cX4_airMoisture 11 = .ok (.aload_n 0, 1) := by decide +kernel
theorem dX4_airMoisture_12 : decode cX4_airMoisture 12 = .ok (.getfield 26, 3) := by decide +kernel
theorem dX4_airMoisture_15 : decode cX4_airMoisture 15 = .ok (.iload_n 1, 1) := by decide +kernel
theorem dX4_airMoisture_16 : decode cX4_airMoisture 16 = .ok (.invokevirtual 71, 3) := by decide +kernel
theorem dX4_airMoisture_19 : decode cX4_airMoisture 19 = .ok (.getfield 130, 3) := by decide +kernel
theorem dX4_airMoisture_22 : decode cX4_airMoisture 22 = .ok (.goto 5, 3) := by decide +kernel
theorem dX4_airMoisture_25 : decode cX4_airMoisture 25 = .ok (.ldc 70, 2) := by decide +kernel
theorem dX4_airMoisture_27 : decode cX4_airMoisture 27 = .ok (.ireturn, 1) := by decide +kernel
set_option maxRecDepth 20000 in
theorem ggX4_addStage_X4_isOutside : GoodIn wsX4_addStage wsX4_isOutside := goodIn_r _ [6] (by decide +kernel) (by decide +kernel)
set_option maxRecDepth 20000 in
theorem gX4_addStage_X4_isOutside : GoodIn wsX4_addStage (va_wsS RX4 47 yX4_isOutside wsX4_isOutside) := goodIn_app (goodIn_of _ (by decide +kernel)) ggX4_addStage_X4_isOutside
set_option maxRecDepth 20000 in
theorem ggX4_addStage_X2_append : GoodIn wsX4_addStage wsX2_append := goodIn_r _ [11, 12, 13, 14, 15, 16, 25, 26, 27] (by decide +kernel) (by decide +kernel)
set_option maxRecDepth 20000 in
theorem gX4_addStage_X2_append : GoodIn wsX4_addStage (wsV RX4 133 RX2 yX2_append wsX2_append) := goodIn_app (goodIn_of _ (by decide +kernel)) ggX4_addStage_X2_append
theorem dX4_addStage_0 : decode cX4_addStage 0 = .ok (.iload_n 1, 1) := by decide +kernel
theorem dX4_addStage_1 : decode cX4_addStage 1 = .ok (.iconst 0, 1) := by decide +kernel
theorem dX4_addStage_2 : decode cX4_addStage 2 = .ok (.sipush 2000, 3) := by decide +kernel
theorem dX4_addStage_5 : decode cX4_addStage 5 = .ok (.invokestatic 47, 3) := by decide +kernel
theorem dX4_addStage_8 : decode cX4_addStage 8 = .ok (.ifCond .ne 14, 3) := by decide +kernel
theorem dX4_addStage_11 : decode cX4_addStage 11 = .ok (.iload_n 2, 1) := by decide +kernel
theorem dX4_addStage_12 : decode cX4_addStage 12 = .ok (.iconst 0, 1) := by decide +kernel
theorem dX4_addStage_13 : decode cX4_addStage 13 = .ok (.sipush 300, 3) := by decide +kernel
theorem dX4_addStage_16 : decode cX4_addStage 16 = .ok (.invokestatic 47, 3) := by decide +kernel
theorem dX4_addStage_19 : decode cX4_addStage 19 = .ok (.ifCond .eq 6, 3) := by decide +kernel
theorem dX4_addStage_22 : decode cX4_addStage 22 = .ok (.ldc 51, 2) := by decide +kernel
theorem dX4_addStage_24 : decode cX4_addStage 24 = .ok (.ireturn, 1) := by decide +kernel
theorem dX4_addStage_25 : decode cX4_addStage 25 = .ok (.aload_n 0, 1) := by decide +kernel
theorem dX4_addStage_26 : decode cX4_addStage 26 = .ok (.getfield 19, 3) := by decide +kernel
theorem dX4_addStage_29 : decode cX4_addStage 29 = .ok (.iload_n 1, 1) := by decide +kernel
theorem dX4_addStage_30 : decode cX4_addStage 30 = .ok (.iload_n 2, 1) := by decide +kernel
theorem dX4_addStage_31 : decode cX4_addStage 31 = .ok (.invokevirtual 133, 3) := by decide +kernel
theorem dX4_addStage_34 : decode cX4_addStage 34 = .ok (.ireturn, 1) := by decide +kernel
set_option maxRecDepth 20000 in
theorem ggX4_clearStages_X2_clear : GoodIn wsX4_clearStages wsX2_clear := goodIn_r _ [6, 7, 16, 17, 18] (by decide +kernel) (by decide +kernel)
set_option maxRecDepth 20000 in
theorem gX4_clearStages_X2_clear : GoodIn wsX4_clearStages (wsV RX4 137 RX2 yX2_clear wsX2_clear) := goodIn_app (goodIn_of _ (by decide +kernel)) ggX4_clearStages_X2_clear
theorem dX4_clearStages_0 : decode cX4_clearStages 0 = .ok (.aload_n 0, 1) := by decide +kernel
theorem dX4_clearStages_1 : decode cX4_clearStages 1 = .ok (.getfield 19, 3) := by decide +kernel
theorem dX4_clearStages_4 : decode cX4_clearStages 4 = .ok (.invokevirtual 137, 3) := by decide +kernel
theorem dX4_clearStages_7 : decode cX4_clearStages 7 = .ok (.ireturn, 1) := by decide +kernel
set_option maxRecDepth 20000 in
theorem ggX4_currentStage_X1_size : GoodIn wsX4_currentStage wsX1_size := goodIn_r _ [8, 9, 10, 11, 12, 13, 14, 15, 71, 72, 73, 74, 75, 76] (by decide +kernel) (by decide +kernel)
set_option maxRecDepth 20000 in
theorem gX4_currentStage_X1_size : GoodIn wsX4_currentStage (wsV RX4 52 RX1 yX1_size wsX1_size) := goodIn_app (goodIn_of _ (by decide +kernel)) ggX4_currentStage_X1_size
set_option maxRecDepth 20000 in
theorem ggX4_currentStage_X1_greatestAverage : GoodIn wsX4_currentStage wsX1_greatestAverage := goodIn_r _ [19, 9, 20, 21, 22, 23, 24, 10, 11, 12, 13, 14, 15, 25, 26, 27, 28, 29, 30, 31, 32, 33, 34, 35, 36, 37, 38, 39, 40, 41, 42, 43, 44, 45, 46, 47, 48, 49, 50, 51, 52, 53, 54, 71, 72, 73, 74, 75, 76, 77, 78, 79] (by decide +kernel) (by decide +kernel)
set_option maxRecDepth 20000 in
theorem gX4_currentStage_X1_greatestAverage : GoodIn wsX4_currentStage (wsV RX4 141 RX1 yX1_greatestAverage wsX1_greatestAverage) := goodIn_app (goodIn_of _ (by decide +kernel)) ggX4_currentStage_X1_greatestAverage
set_option maxRecDepth 20000 in
theorem ggX4_currentStage_X2_stageFor : GoodIn wsX4_currentStage wsX2_stageFor := goodIn_r _ [59, 60, 61, 62, 80, 81, 82] (by decide +kernel) (by decide +kernel)
set_option maxRecDepth 20000 in
theorem gX4_currentStage_X2_stageFor : GoodIn wsX4_currentStage (wsV RX4 144 RX2 yX2_stageFor wsX2_stageFor) := goodIn_app (goodIn_of _ (by decide +kernel)) ggX4_currentStage_X2_stageFor
theorem dX4_currentStage_0 : decode cX4_currentStage 0 = .ok (.aload_n 0, 1) := by decide +kernel
theorem dX4_currentStage_1 : decode cX4_currentStage 1 = .ok (.getfield 26, 3) := by decide +kernel
theorem dX4_currentStage_4 : decode cX4_currentStage 4 = .ok (.invokevirtual 52, 3) := by decide +kernel
theorem dX4_currentStage_7 : decode cX4_currentStage 7 = .ok (.ifCond .ne 8, 3) := by decide +kernel
theorem dX4_currentStage_10 : decode cX4_currentStage 10 = .ok (.ldc 140, 2) := by decide +kernel
theorem dX4_currentStage_12 : decode cX4_currentStage 12 = .ok (.goto 17, 3) := by decide +kernel
theorem dX4_currentStage_15 : decode cX4_currentStage 15 = .ok (.aload_n 0, 1) := by decide +kernel
theorem dX4_currentStage_16 : decode cX4_currentStage 16 = .ok (.getfield 19, 3) := by decide +kernel
theorem dX4_currentStage_19 : decode cX4_currentStage 19 = .ok (.aload_n 0, 1) := by decide +kernel
theorem dX4_currentStage_20 : decode cX4_currentStage 20 = .ok (.getfield 26, 3) := by decide +kernel
theorem dX4_currentStage_23 : decode cX4_currentStage 23 = .ok (.invokevirtual 141, 3) := by decide +kernel
theorem dX4_currentStage_26 : decode cX4_currentStage 26 = .ok (.invokevirtual 144, 3) := by decide +kernel
theorem dX4_currentStage_29 : decode cX4_currentStage 29 = .ok (.ireturn, 1) := by decide +kernel
set_option maxRecDepth 20000 in
theorem ggX4_runSchedule_X4_isOutside : GoodIn wsX4_runSchedule wsX4_isOutside := goodIn_r _ [6] (by decide +kernel) (by decide +kernel)
set_option maxRecDepth 20000 in
theorem gX4_runSchedule_X4_isOutside : GoodIn wsX4_runSchedule (va_wsS RX4 47 yX4_isOutside wsX4_isOutside) := goodIn_app (goodIn_of _ (by decide +kernel)) ggX4_runSchedule_X4_isOutside
set_option maxRecDepth 20000 in
theorem ggX4_runSchedule_X1_isWetterThan : GoodIn wsX4_runSchedule wsX1_isWetterThan := goodIn_r _ [11, 12, 13, 14, 10, 15, 16, 17, 18, 19, 20, 21, 22, 23, 24, 25, 26, 27, 28, 29, 30, 31, 32, 33, 34, 35, 36, 37, 38, 39, 40, 41, 42, 43, 44, 45, 46, 47, 48, 49, 50, 51, 52, 53, 54, 55, 5, 56, 143, 144, 145, 146, 147, 148, 149, 150, 151] (by decide +kernel) (by decide +kernel)
set_option maxRecDepth 20000 in
theorem gX4_runSchedule_X1_isWetterThan : GoodIn wsX4_runSchedule (wsV RX4 147 RX1 yX1_isWetterThan wsX1_isWetterThan) := goodIn_app (goodIn_of _ (by decide +kernel)) ggX4_runSchedule_X1_isWetterThan
set_option maxRecDepth 20000 in
theorem ggX4_runSchedule_X4_scheduledInlet : GoodIn wsX4_runSchedule wsX4_scheduledInlet := goodIn_r _ [60, 61, 62, 63, 64, 65, 66, 5, 67, 2, 68, 69, 70, 71, 10, 72, 16, 22, 23, 24, 25, 26, 27, 73, 13, 14, 15, 17, 18, 19, 20, 21, 28, 29, 30, 31, 32, 33, 34, 35, 36, 37, 38, 39, 40, 41, 42, 43, 44, 45, 46, 47, 48, 49, 50, 51, 52, 53, 54, 55, 56, 74, 75, 76, 77, 78, 79, 80, 81, 82, 83, 84, 85, 86, 135, 136, 137, 138, 139, 140, 141, 142, 152, 153, 154, 155, 156, 157, 143, 144, 145, 146, 147, 148, 149, 150, 151, 158, 159, 160] (by decide +kernel) (by decide +kernel)
set_option maxRecDepth 20000 in
theorem gX4_runSchedule_X4_scheduledInlet : GoodIn wsX4_runSchedule (wsV RX4 150 RX4 yX4_scheduledInlet wsX4_scheduledInlet) := goodIn_app (goodIn_of _ (by decide +kernel)) ggX4_runSchedule_X4_scheduledInlet
set_option maxRecDepth 20000 in
theorem ggX4_runSchedule_X4_runDryingHour : GoodIn wsX4_runSchedule wsX4_runDryingHour := goodIn_r _ [90, 2, 62, 91, 92, 93, 94, 10, 95, 16, 96, 97, 18, 19, 20, 21, 17, 98, 22, 23, 24, 25, 26, 27, 55, 5, 56, 28, 29, 30, 31, 32, 33, 34, 35, 36, 37, 38, 39, 40, 41, 42, 43, 44, 99, 100, 101, 48, 102, 103, 50, 104, 105, 106, 107, 108, 109, 110, 111, 112, 113, 114, 115, 116, 117, 118, 119, 120, 121, 122, 123, 124, 125, 126, 127, 128, 129, 130, 131, 132, 133, 134, 135, 136, 137, 138, 139, 140, 141, 142, 143, 144, 145, 152, 153, 154, 155, 156, 157, 146, 147, 148, 149, 150, 151] (by decide +kernel) (by decide +kernel)
set_option maxRecDepth 20000 in
theorem gX4_runSchedule_X4_runDryingHour : GoodIn wsX4_runSchedule (wsV RX4 120 RX4 yX4_runDryingHour wsX4_runDryingHour) := goodIn_app (goodIn_of _ (by decide +kernel)) ggX4_runSchedule_X4_runDryingHour
theorem dX4_runSchedule_0 : decode cX4_runSchedule 0 = .ok (.iload_n 1, 1) := by decide +kernel
theorem dX4_runSchedule_1 : decode cX4_runSchedule 1 = .ok (.iconst 0, 1) := by decide +kernel
theorem dX4_runSchedule_2 : decode cX4_runSchedule 2 = .ok (.sipush 2000, 3) := by decide +kernel
theorem dX4_runSchedule_5 : decode cX4_runSchedule 5 = .ok (.invokestatic 47, 3) := by decide +kernel
theorem dX4_runSchedule_8 : decode cX4_runSchedule 8 = .ok (.ifCond .ne 14, 3) := by decide +kernel
theorem dX4_runSchedule_11 : decode cX4_runSchedule 11 = .ok (.iload_n 2, 1) := by decide +kernel
theorem dX4_runSchedule_12 : decode cX4_runSchedule 12 = .ok (.iconst 1, 1) := by decide +kernel
theorem dX4_runSchedule_13 : decode cX4_runSchedule 13 = .ok (.sipush 200, 3) := by decide +kernel
theorem dX4_runSchedule_16 : decode cX4_runSchedule 16 = .ok (.invokestatic 47, 3) := by decide +kernel
theorem dX4_runSchedule_19 : decode cX4_runSchedule 19 = .ok (.ifCond .eq 6, 3) := by decide +kernel
theorem dX4_runSchedule_22 : decode cX4_runSchedule 22 = .ok (.ldc 51, 2) := by decide +kernel
theorem dX4_runSchedule_24 : decode cX4_runSchedule 24 = .ok (.ireturn, 1) := by decide +kernel
theorem dX4_runSchedule_25 : decode cX4_runSchedule 25 = .ok (.iconst 0, 1) := by decide +kernel
theorem dX4_runSchedule_26 : decode cX4_runSchedule 26 = .ok (.istore_n 3, 1) := by decide +kernel
theorem dX4_runSchedule_27 : decode cX4_runSchedule 27 = .ok (.iload_n 3, 1) := by decide +kernel
theorem dX4_runSchedule_28 : decode cX4_runSchedule 28 = .ok (.iload_n 2, 1) := by decide +kernel
theorem dX4_runSchedule_29 : decode cX4_runSchedule 29 = .ok (.if_icmp .ge 29, 3) := by decide +kernel
theorem dX4_runSchedule_32 : decode cX4_runSchedule 32 = .ok (.aload_n 0, 1) := by decide +kernel
theorem dX4_runSchedule_33 : decode cX4_runSchedule 33 = .ok (.getfield 26, 3) := by decide +kernel
theorem dX4_runSchedule_36 : decode cX4_runSchedule 36 = .ok (.iload_n 1, 1) := by decide +kernel
theorem dX4_runSchedule_37 : decode cX4_runSchedule 37 = .ok (.invokevirtual 147, 3) := by decide +kernel
theorem dX4_runSchedule_40 : decode cX4_runSchedule 40 = .ok (.ifCond .eq 18, 3) := by decide +kernel
theorem dX4_runSchedule_43 : decode cX4_runSchedule 43 = .ok (.aload_n 0, 1) := by decide +kernel
theorem dX4_runSchedule_44 : decode cX4_runSchedule 44 = .ok (.aload_n 0, 1) := by decide +kernel
theorem dX4_runSchedule_45 : decode cX4_runSchedule 45 = .ok (.invokevirtual 150, 3) := by decide +kernel
theorem dX4_runSchedule_48 : decode cX4_runSchedule 48 = .ok (.invokevirtual 120, 3) := by decide +kernel
theorem dX4_runSchedule_51 : decode cX4_runSchedule 51 = .ok (.pop, 1) := by decide +kernel
theorem dX4_runSchedule_52 : decode cX4_runSchedule 52 = .ok (.iinc 3 1, 3) := by decide +kernel
theorem dX4_runSchedule_55 : decode cX4_runSchedule 55 = .ok (.goto (-28), 3) := by decide +kernel
theorem dX4_runSchedule_58 : decode cX4_runSchedule 58 = .ok (.iload_n 3, 1) := by decide +kernel
theorem dX4_runSchedule_59 : decode cX4_runSchedule 59 = .ok (.ireturn, 1) := by decide +kernel
set_option maxRecDepth 20000 in
theorem ggX4_plannedHours_X4_isOutside : GoodIn wsX4_plannedHours wsX4_isOutside := goodIn_r _ [5] (by decide +kernel) (by decide +kernel)
set_option maxRecDepth 20000 in
theorem gX4_plannedHours_X4_isOutside : GoodIn wsX4_plannedHours (va_wsS RX4 47 yX4_isOutside wsX4_isOutside) := goodIn_app (goodIn_of _ (by decide +kernel)) ggX4_plannedHours_X4_isOutside
set_option maxRecDepth 20000 in
theorem ggX4_plannedHours_X4_makePlan : GoodIn wsX4_plannedHours wsX4_makePlan := goodIn_r _ [9, 10, 11, 12, 13, 14, 15, 16, 17, 18, 19, 20, 21, 22, 23, 24, 25, 26, 27, 28, 29, 30, 31, 32, 33, 34, 35, 36, 37, 38, 39, 40, 41, 42, 43, 44, 45, 46, 47, 48, 49, 50, 51, 52, 53, 54, 55, 56, 57, 58, 59, 60, 61, 62, 63, 64, 65, 66, 67, 68, 69, 70, 71, 72, 73, 74, 75, 76, 77, 78, 79, 80, 81, 82, 4, 83, 84, 85, 86, 87, 88, 89, 90, 91, 92, 93, 94, 95, 96, 97, 98, 99, 100, 101, 102, 103, 104, 105, 106, 107, 108, 109, 110, 111, 112, 113, 114, 115, 116, 117, 118, 119, 120, 121, 122, 123, 124, 125, 126, 127, 128, 129, 130, 131, 132, 133, 134, 135, 136, 137, 138, 139, 140, 141, 142, 143, 144, 145, 146, 147, 148, 149, 150] (by decide +kernel) (by decide +kernel)
set_option maxRecDepth 20000 in
theorem gX4_plannedHours_X4_makePlan : GoodIn wsX4_plannedHours (wsV RX4 153 RX4 yX4_makePlan wsX4_makePlan) := goodIn_app (goodIn_of _ (by decide +kernel)) ggX4_plannedHours_X4_makePlan
theorem dX4_plannedHours_0 : decode cX4_plannedHours 0 = .ok (.iload_n 1, 1) := by decide +kernel
theorem dX4_plannedHours_1 : decode cX4_plannedHours 1 = .ok (.iconst 0, 1) := by decide +kernel
theorem dX4_plannedHours_2 : decode cX4_plannedHours 2 = .ok (.sipush 2000, 3) := by decide +kernel
theorem dX4_plannedHours_5 : decode cX4_plannedHours 5 = .ok (.invokestatic 47, 3) := by decide +kernel
theorem dX4_plannedHours_8 : decode cX4_plannedHours 8 = .ok (.ifCond .eq 8, 3) := by decide +kernel
theorem dX4_plannedHours_11 : decode cX4_plannedHours 11 = .ok (.ldc 51, 2) := by decide +kernel
theorem dX4_plannedHours_13 : decode cX4_plannedHours 13 = .ok (.goto 8, 3) := by decide +kernel
theorem dX4_plannedHours_16 : decode cX4_plannedHours 16 = .ok (.aload_n 0, 1) := by decide +kernel
theorem dX4_plannedHours_17 : decode cX4_plannedHours 17 = .ok (.iload_n 1, 1) := by decide +kernel
theorem dX4_plannedHours_18 : decode cX4_plannedHours 18 = .ok (.invokevirtual 153, 3) := by decide +kernel
theorem dX4_plannedHours_21 : decode cX4_plannedHours 21 = .ok (.ireturn, 1) := by decide +kernel
set_option maxRecDepth 20000 in
theorem ggX4_plannedInlet_X4_isOutside : GoodIn wsX4_plannedInlet wsX4_isOutside := goodIn_r _ [7] (by decide +kernel) (by decide +kernel)
set_option maxRecDepth 20000 in
theorem gX4_plannedInlet_X4_isOutside : GoodIn wsX4_plannedInlet (va_wsS RX4 47 yX4_isOutside wsX4_isOutside) := goodIn_app (goodIn_of _ (by decide +kernel)) ggX4_plannedInlet_X4_isOutside
set_option maxRecDepth 20000 in
theorem ggX4_plannedInlet_X4_makePlan : GoodIn wsX4_plannedInlet wsX4_makePlan := goodIn_r _ [11, 12, 13, 2, 14, 15, 16, 3, 17, 18, 19, 20, 21, 22, 23, 24, 25, 26, 27, 28, 29, 30, 31, 32, 33, 34, 35, 36, 37, 38, 39, 40, 41, 42, 43, 44, 45, 46, 47, 48, 49, 50, 51, 52, 53, 54, 55, 56, 57, 58, 59, 60, 61, 62, 63, 64, 65, 66, 67, 68, 69, 70, 71, 72, 73, 74, 75, 76, 77, 78, 79, 80, 81, 82, 6, 83, 84, 85, 86, 87, 88, 89, 90, 91, 92, 93, 94, 95, 96, 97, 98, 99, 100, 101, 102, 103, 104, 105, 106, 107, 108, 109, 110, 111, 112, 113, 114, 115, 116, 117, 118, 119, 120, 121, 122, 123, 124, 125, 126, 127, 128, 129, 130, 131, 132, 133, 134, 135, 136, 137, 138, 139, 140, 141, 142, 143, 144, 145, 146, 147, 148, 149, 150] (by decide +kernel) (by decide +kernel)
set_option maxRecDepth 20000 in
theorem gX4_plannedInlet_X4_makePlan : GoodIn wsX4_plannedInlet (wsV RX4 153 RX4 yX4_makePlan wsX4_makePlan) := goodIn_app (goodIn_of _ (by decide +kernel)) ggX4_plannedInlet_X4_makePlan
theorem dX4_plannedInlet_0 : decode cX4_plannedInlet 0 = .ok (.iload_n 1, 1) := by decide +kernel
theorem dX4_plannedInlet_1 : decode cX4_plannedInlet 1 = .ok (.iconst 0, 1) := by decide +kernel
theorem dX4_plannedInlet_2 : decode cX4_plannedInlet 2 = .ok (.sipush 2000, 3) := by decide +kernel
theorem dX4_plannedInlet_5 : decode cX4_plannedInlet 5 = .ok (.invokestatic 47, 3) := by decide +kernel
theorem dX4_plannedInlet_8 : decode cX4_plannedInlet 8 = .ok (.ifCond .ne 7, 3) := by decide +kernel
theorem dX4_plannedInlet_11 : decode cX4_plannedInlet 11 = .ok (.iload_n 2, 1) := by decide +kernel
theorem dX4_plannedInlet_12 : decode cX4_plannedInlet 12 = .ok (.ifCond .ge 6, 3) := by decide +kernel
theorem dX4_plannedInlet_15 : decode cX4_plannedInlet 15 = .ok (.ldc 51, 2) := by decide +kernel
theorem dX4_plannedInlet_17 : decode cX4_plannedInlet 17 = .ok (.ireturn, 1) := by decide +kernel
theorem dX4_plannedInlet_18 : decode cX4_plannedInlet 18 = .ok (.iload_n 2, 1) := by decide +kernel
theorem dX4_plannedInlet_19 : decode cX4_plannedInlet 19 = .ok (.aload_n 0, 1) := by decide +kernel
theorem dX4_plannedInlet_20 : decode cX4_plannedInlet 20 = .ok (.iload_n 1, 1) := by decide +kernel
theorem dX4_plannedInlet_21 : decode cX4_plannedInlet 21 = .ok (.invokevirtual 153, 3) := by decide +kernel
theorem dX4_plannedInlet_24 : decode cX4_plannedInlet 24 = .ok (.if_icmp .ge 21, 3) := by decide +kernel
theorem dX4_plannedInlet_27 : decode cX4_plannedInlet 27 = .ok (.iload_n 2, 1) := by decide +kernel
theorem dX4_plannedInlet_28 : decode cX4_plannedInlet 28 = .ok (.aload_n 0, 1) := by decide +kernel
theorem dX4_plannedInlet_29 : decode cX4_plannedInlet 29 = .ok (.getfield 36, 3) := by decide +kernel
theorem dX4_plannedInlet_32 : decode cX4_plannedInlet 32 = .ok (.arraylength, 1) := by decide +kernel
theorem dX4_plannedInlet_33 : decode cX4_plannedInlet 33 = .ok (.if_icmp .ge 12, 3) := by decide +kernel
theorem dX4_plannedInlet_36 : decode cX4_plannedInlet 36 = .ok (.aload_n 0, 1) := by decide +kernel
theorem dX4_plannedInlet_37 : decode cX4_plannedInlet 37 = .ok (.getfield 36, 3) := by decide +kernel
theorem dX4_plannedInlet_40 : decode cX4_plannedInlet 40 = .ok (.iload_n 2, 1) := by decide +kernel
theorem dX4_plannedInlet_41 : decode cX4_plannedInlet 41 = .ok (.iaload, 1) := by decide +kernel
theorem dX4_plannedInlet_42 : decode cX4_plannedInlet 42 = .ok (.goto 5, 3) := by decide +kernel
theorem dX4_plannedInlet_45 : decode cX4_plannedInlet 45 = .ok (.ldc 140, 2) := by decide +kernel
theorem dX4_plannedInlet_47 : decode cX4_plannedInlet 47 = .ok (.ireturn, 1) := by decide +kernel
theorem dX4_isOutside_0 : decode cX4_isOutside 0 = .ok (.iload_n 0, 1) := by decide +kernel
theorem dX4_isOutside_1 : decode cX4_isOutside 1 = .ok (.iload_n 1, 1) := by decide +kernel
theorem dX4_isOutside_2 : decode cX4_isOutside 2 = .ok (.if_icmp .lt 8, 3) := by decide +kernel
theorem dX4_isOutside_5 : decode cX4_isOutside 5 = .ok (.iload_n 0, 1) := by decide +kernel
theorem dX4_isOutside_6 : decode cX4_isOutside 6 = .ok (.iload_n 2, 1) := by decide +kernel
theorem dX4_isOutside_7 : decode cX4_isOutside 7 = .ok (.if_icmp .le 7, 3) := by decide +kernel
theorem dX4_isOutside_10 : decode cX4_isOutside 10 = .ok (.iconst 1, 1) := by decide +kernel
theorem dX4_isOutside_11 : decode cX4_isOutside 11 = .ok (.goto 4, 3) := by decide +kernel
theorem dX4_isOutside_14 : decode cX4_isOutside 14 = .ok (.iconst 0, 1) := by decide +kernel
theorem dX4_isOutside_15 : decode cX4_isOutside 15 = .ok (.ireturn, 1) := by decide +kernel
theorem dX4_quotient_0 : decode cX4_quotient 0 = .ok (.iload_n 1, 1) := by decide +kernel
theorem dX4_quotient_1 : decode cX4_quotient 1 = .ok (.ifCond .ne 7, 3) := by decide +kernel
theorem dX4_quotient_4 : decode cX4_quotient 4 = .ok (.iconst 0, 1) := by decide +kernel
theorem dX4_quotient_5 : decode cX4_quotient 5 = .ok (.goto 6, 3) := by decide +kernel
theorem dX4_quotient_8 : decode cX4_quotient 8 = .ok (.iload_n 0, 1) := by decide +kernel
theorem dX4_quotient_9 : decode cX4_quotient 9 = .ok (.iload_n 1, 1) := by decide +kernel
theorem dX4_quotient_10 : decode cX4_quotient 10 = .ok (.idiv, 1) := by decide +kernel
theorem dX4_quotient_11 : decode cX4_quotient 11 = .ok (.ireturn, 1) := by decide +kernel
set_option maxRecDepth 20000 in
theorem ggX4_runDryingHour_X1_passDryingHour : GoodIn wsX4_runDryingHour wsX1_passDryingHour := goodIn_r _ [8, 9, 10, 11, 12, 13, 14, 15, 16, 17, 18, 19, 20, 21, 22, 23, 24, 25, 26, 27, 28, 29, 30, 31, 32, 33, 34, 35, 36, 37, 38, 39, 40, 41, 42, 43, 44, 45, 46, 47, 48, 49, 50, 51, 52, 53, 54, 55, 56, 57, 58, 59, 7, 60, 61, 90, 91, 92, 93, 94, 95, 96, 97, 98, 99, 100, 101, 102, 103, 104] (by decide +kernel) (by decide +kernel)
set_option maxRecDepth 20000 in
theorem gX4_runDryingHour_X1_passDryingHour : GoodIn wsX4_runDryingHour (wsV RX4 156 RX1 yX1_passDryingHour wsX1_passDryingHour) := goodIn_app (goodIn_of _ (by decide +kernel)) ggX4_runDryingHour_X1_passDryingHour
set_option maxRecDepth 20000 in
theorem ggX4_runDryingHour_X4_endHour : GoodIn wsX4_runDryingHour wsX4_endHour := goodIn_r _ [65, 66, 1, 2, 67, 68, 69, 70, 7, 71, 9, 16, 72, 73, 18, 19, 20, 21, 22, 23, 27, 28, 29, 30, 31, 32, 33, 34, 35, 36, 37, 38, 39, 40, 41, 42, 43, 74, 75, 76, 47, 77, 50, 78, 13, 14, 15, 79, 80, 81, 82, 83, 84, 85, 86, 87, 88, 89, 93, 94, 95, 96, 97, 98, 90, 91, 92, 102, 103, 104, 99, 100, 101] (by decide +kernel) (by decide +kernel)
set_option maxRecDepth 20000 in
theorem gX4_runDryingHour_X4_endHour : GoodIn wsX4_runDryingHour (wsV RX4 127 RX4 yX4_endHour wsX4_endHour) := goodIn_app (goodIn_of _ (by decide +kernel)) ggX4_runDryingHour_X4_endHour
theorem dX4_runDryingHour_0 : decode cX4_runDryingHour 0 = .ok (.aload_n 0, 1) := by decide +kernel
theorem dX4_runDryingHour_1 : decode cX4_runDryingHour 1 = .ok (.getfield 26, 3) := by decide +kernel
theorem dX4_runDryingHour_4 : decode cX4_runDryingHour 4 = .ok (.iload_n 1, 1) := by decide +kernel
theorem dX4_runDryingHour_5 : decode cX4_runDryingHour 5 = .ok (.aload_n 0, 1) := by decide +kernel
theorem dX4_runDryingHour_6 : decode cX4_runDryingHour 6 = .ok (.getfield 10, 3) := by decide +kernel
theorem dX4_runDryingHour_9 : decode cX4_runDryingHour 9 = .ok (.invokevirtual 156, 3) := by decide +kernel
theorem dX4_runDryingHour_12 : decode cX4_runDryingHour 12 = .ok (.istore_n 2, 1) := by decide +kernel
theorem dX4_runDryingHour_13 : decode cX4_runDryingHour 13 = .ok (.aload_n 0, 1) := by decide +kernel
theorem dX4_runDryingHour_14 : decode cX4_runDryingHour 14 = .ok (.dup, 1) := by decide +kernel
theorem dX4_runDryingHour_15 : decode cX4_runDryingHour 15 = .ok (.getfield 44, 3) := by decide +kernel
theorem dX4_runDryingHour_18 : decode cX4_runDryingHour 18 = .ok (.iload_n 2, 1) := by decide +kernel
theorem dX4_runDryingHour_19 : decode cX4_runDryingHour 19 = .ok (.iadd, 1) := by decide +kernel
theorem dX4_runDryingHour_20 : decode cX4_runDryingHour 20 = .ok (.putfield 44, 3) := by decide +kernel
theorem dX4_runDryingHour_23 : decode cX4_runDryingHour 23 = .ok (.aload_n 0, 1) := by decide +kernel
theorem dX4_runDryingHour_24 : decode cX4_runDryingHour 24 = .ok (.invokevirtual 127, 3) := by decide +kernel
theorem dX4_runDryingHour_27 : decode cX4_runDryingHour 27 = .ok (.pop, 1) := by decide +kernel
theorem dX4_runDryingHour_28 : decode cX4_runDryingHour 28 = .ok (.iload_n 2, 1) := by decide +kernel
theorem dX4_runDryingHour_29 : decode cX4_runDryingHour 29 = .ok (.ireturn, 1) := by decide +kernel
set_option maxRecDepth 20000 in
theorem ggX4_endHour_X1_recordChecks : GoodIn wsX4_endHour wsX1_recordChecks := goodIn_r _ [9, 10, 11, 12, 13, 14, 15, 16, 17, 18, 19, 20, 21, 22, 23, 24, 25, 26, 27, 28, 29, 30, 31, 32, 33, 34, 35, 36, 37, 38, 39, 40, 41, 42, 43, 44, 45, 46, 47, 48, 49, 64, 65, 66, 67, 68, 69, 70, 71, 72] (by decide +kernel) (by decide +kernel)
set_option maxRecDepth 20000 in
theorem gX4_endHour_X1_recordChecks : GoodIn wsX4_endHour (wsV RX4 160 RX1 yX1_recordChecks wsX1_recordChecks) := goodIn_app (goodIn_of _ (by decide +kernel)) ggX4_endHour_X1_recordChecks
theorem dX4_endHour_0 : decode cX4_endHour 0 = .ok (.aload_n 0, 1) := by decide +kernel
theorem dX4_endHour_1 : decode cX4_endHour 1 = .ok (.dup, 1) := by decide +kernel
theorem dX4_endHour_2 : decode cX4_endHour 2 = .ok (.getfield 40, 3) := by decide +kernel
theorem dX4_endHour_5 : decode cX4_endHour 5 = .ok (.iconst 1, 1) := by decide +kernel
theorem dX4_endHour_6 : decode cX4_endHour 6 = .ok (.iadd, 1) := by decide +kernel
theorem dX4_endHour_7 : decode cX4_endHour 7 = .ok (.putfield 40, 3) := by decide +kernel
theorem dX4_endHour_10 : decode cX4_endHour 10 = .ok (.aload_n 0, 1) := by decide +kernel
theorem dX4_endHour_11 : decode cX4_endHour 11 = .ok (.getfield 26, 3) := by decide +kernel
theorem dX4_endHour_14 : decode cX4_endHour 14 = .ok (.aload_n 0, 1) := by decide +kernel
theorem dX4_endHour_15 : decode cX4_endHour 15 = .ok (.getfield 10, 3) := by decide +kernel
theorem dX4_endHour_18 : decode cX4_endHour 18 = .ok (.getfield 107, 3) := by decide +kernel
theorem dX4_endHour_21 : decode cX4_endHour 21 = .ok (.aload_n 0, 1) := by decide +kernel
theorem dX4_endHour_22 : decode cX4_endHour 22 = .ok (.getfield 40, 3) := by decide +kernel
theorem dX4_endHour_25 : decode cX4_endHour 25 = .ok (.invokevirtual 160, 3) := by decide +kernel
theorem dX4_endHour_28 : decode cX4_endHour 28 = .ok (.ireturn, 1) := by decide +kernel
set_option maxRecDepth 20000 in
theorem ggX4_scheduledInlet_X4_currentStage : GoodIn wsX4_scheduledInlet wsX4_currentStage := goodIn_r _ [8, 9, 10, 1, 11, 12, 13, 14, 15, 16, 17, 18, 19, 20, 21, 22, 23, 24, 25, 26, 27, 28, 29, 30, 31, 32, 33, 34, 35, 36, 37, 38, 39, 40, 41, 42, 43, 44, 45, 46, 47, 48, 49, 50, 51, 52, 53, 54, 55, 56, 57, 58, 59, 7, 60, 61, 62, 63, 64, 65, 66, 67, 68, 74, 75, 76, 77, 78, 79, 80, 81, 88, 89, 90, 91, 92, 93, 94, 95, 96, 97, 98, 99] (by decide +kernel) (by decide +kernel)
set_option maxRecDepth 20000 in
theorem gX4_scheduledInlet_X4_currentStage : GoodIn wsX4_scheduledInlet (wsV RX4 163 RX4 yX4_currentStage wsX4_currentStage) := goodIn_app (goodIn_of _ (by decide +kernel)) ggX4_scheduledInlet_X4_currentStage
set_option maxRecDepth 20000 in
theorem ggX4_scheduledInlet_X2_inletOf : GoodIn wsX4_scheduledInlet wsX2_inletOf := goodIn_r _ [72, 73, 97, 98, 99] (by decide +kernel) (by decide +kernel)
set_option maxRecDepth 20000 in
theorem gX4_scheduledInlet_X2_inletOf : GoodIn wsX4_scheduledInlet (wsV RX4 166 RX2 yX2_inletOf wsX2_inletOf) := goodIn_app (goodIn_of _ (by decide +kernel)) ggX4_scheduledInlet_X2_inletOf
theorem dX4_scheduledInlet_0 : decode cX4_scheduledInlet 0 = .ok (.aload_n 0, 1) := by decide +kernel
theorem dX4_scheduledInlet_1 : decode cX4_scheduledInlet 1 = .ok (.getfield 19, 3) := by decide +kernel
theorem dX4_scheduledInlet_4 : decode cX4_scheduledInlet 4 = .ok (.aload_n 0, 1) := by decide +kernel
theorem dX4_scheduledInlet_5 : decode cX4_scheduledInlet 5 = .ok (.invokevirtual 163, 3) := by decide +kernel
theorem dX4_scheduledInlet_8 : decode cX4_scheduledInlet 8 = .ok (.aload_n 0, 1) := by decide +kernel
theorem dX4_scheduledInlet_9 : decode cX4_scheduledInlet 9 = .ok (.getfield 10, 3) := by decide +kernel
theorem dX4_scheduledInlet_12 : decode cX4_scheduledInlet 12 = .ok (.getfield 110, 3) := by decide +kernel
theorem dX4_scheduledInlet_15 : decode cX4_scheduledInlet 15 = .ok (.invokevirtual 166, 3) := by decide +kernel
theorem dX4_scheduledInlet_18 : decode cX4_scheduledInlet 18 = .ok (.ireturn, 1) := by decide +kernel
set_option maxRecDepth 20000 in
theorem ggX4_makePlan_X1_copyFrom : GoodIn wsX4_makePlan wsX1_copyFrom := goodIn_r _ [12, 13, 14, 15, 16, 17, 18, 19, 20, 21, 22, 23, 24, 25, 26, 27, 28, 29, 30, 31, 32, 33, 34, 35, 36, 37, 38, 39, 40, 41, 42, 43, 44, 45, 46, 47, 48, 49, 50, 51, 52, 53, 128, 129, 130, 131, 132, 133, 134, 135, 136] (by decide +kernel) (by decide +kernel)
set_option maxRecDepth 20000 in
theorem gX4_makePlan_X1_copyFrom : GoodIn wsX4_makePlan (wsV RX4 169 RX1 yX1_copyFrom wsX1_copyFrom) := goodIn_app (goodIn_of _ (by decide +kernel)) ggX4_makePlan_X1_copyFrom
set_option maxRecDepth 20000 in
theorem ggX4_makePlan_X1_isWetterThan : GoodIn wsX4_makePlan wsX1_isWetterThan := goodIn_r _ [57, 58, 59, 60, 11, 61, 13, 14, 62, 63, 48, 64, 17, 18, 19, 20, 21, 22, 23, 24, 25, 26, 27, 28, 29, 30, 31, 32, 33, 34, 35, 36, 37, 38, 39, 65, 66, 67, 43, 68, 45, 69, 70, 71, 72, 73, 74, 75, 128, 129, 130, 131, 132, 133, 134, 135, 136] (by decide +kernel) (by decide +kernel)
set_option maxRecDepth 20000 in
theorem gX4_makePlan_X1_isWetterThan : GoodIn wsX4_makePlan (wsV RX4 147 RX1 yX1_isWetterThan wsX1_isWetterThan) := goodIn_app (goodIn_of _ (by decide +kernel)) ggX4_makePlan_X1_isWetterThan
set_option maxRecDepth 20000 in
theorem ggX4_makePlan_X4_chooseInlet : GoodIn wsX4_makePlan wsX4_chooseInlet := goodIn_r _ [79, 6, 1, 5, 80, 4, 8, 9, 10, 11, 12, 13, 14, 15, 16, 17, 18, 19, 20, 21, 22, 23, 24, 25, 26, 27, 28, 29, 30, 31, 32, 33, 34, 35, 36, 37, 38, 39, 40, 41, 42, 43, 44, 45, 46, 47, 48, 49, 50, 51, 52, 53, 81, 82, 83, 84, 85, 62, 63, 64, 86, 73, 74, 75, 87, 88, 89, 90, 91, 92, 93, 94, 95, 96, 97, 98, 99, 100, 101, 102, 103, 104, 105, 106, 107, 108, 109, 110, 120, 121, 122, 123, 124, 125, 126, 127, 137, 138, 139, 140, 141, 142, 128, 129, 130, 131, 132, 133, 134, 135, 136] (by decide +kernel) (by decide +kernel)
set_option maxRecDepth 20000 in
theorem gX4_makePlan_X4_chooseInlet : GoodIn wsX4_makePlan (wsV RX4 173 RX4 yX4_chooseInlet wsX4_chooseInlet) := goodIn_app (goodIn_of _ (by decide +kernel)) ggX4_makePlan_X4_chooseInlet
set_option maxRecDepth 20000 in
theorem ggX4_makePlan_X1_passRestHour : GoodIn wsX4_makePlan wsX1_passRestHour := goodIn_r _ [114, 13, 14, 115, 17, 18, 19, 20, 21, 22, 23, 24, 25, 26, 27, 28, 29, 30, 31, 32, 33, 34, 35, 36, 37, 38, 39, 116, 117, 118, 43, 119, 94, 95, 96, 97, 45, 128, 129, 130, 137, 138, 139, 140, 141, 142, 131, 132, 133, 134, 135, 136] (by decide +kernel) (by decide +kernel)
set_option maxRecDepth 20000 in
theorem gX4_makePlan_X1_passRestHour : GoodIn wsX4_makePlan (wsV RX4 123 RX1 yX1_passRestHour wsX1_passRestHour) := goodIn_app (goodIn_of _ (by decide +kernel)) ggX4_makePlan_X1_passRestHour
theorem dX4_makePlan_0 : decode cX4_makePlan 0 = .ok (.aload_n 0, 1) := by decide +kernel
theorem dX4_makePlan_1 : decode cX4_makePlan 1 = .ok (.getfield 30, 3) := by decide +kernel
theorem dX4_makePlan_4 : decode cX4_makePlan 4 = .ok (.aload_n 0, 1) := by decide +kernel
theorem dX4_makePlan_5 : decode cX4_makePlan 5 = .ok (.getfield 26, 3) := by decide +kernel
theorem dX4_makePlan_8 : decode cX4_makePlan 8 = .ok (.invokevirtual 169, 3) := by decide +kernel
theorem dX4_makePlan_11 : decode cX4_makePlan 11 = .ok (.iconst 0, 1) := by decide +kernel
theorem dX4_makePlan_12 : decode cX4_makePlan 12 = .ok (.istore_n 2, 1) := by decide +kernel
theorem dX4_makePlan_13 : decode cX4_makePlan 13 = .ok (.iload_n 2, 1) := by decide +kernel
theorem dX4_makePlan_14 : decode cX4_makePlan 14 = .ok (.aload_n 0, 1) := by decide +kernel
theorem dX4_makePlan_15 : decode cX4_makePlan 15 = .ok (.getfield 36, 3) := by decide +kernel
theorem dX4_makePlan_18 : decode cX4_makePlan 18 = .ok (.arraylength, 1) := by decide +kernel
theorem dX4_makePlan_19 : decode cX4_makePlan 19 = .ok (.if_icmp .ge 63, 3) := by decide +kernel
theorem dX4_makePlan_22 : decode cX4_makePlan 22 = .ok (.aload_n 0, 1) := by decide +kernel
theorem dX4_makePlan_23 : decode cX4_makePlan 23 = .ok (.getfield 30, 3) := by decide +kernel
theorem dX4_makePlan_26 : decode cX4_makePlan 26 = .ok (.iload_n 1, 1) := by decide +kernel
theorem dX4_makePlan_27 : decode cX4_makePlan 27 = .ok (.invokevirtual 147, 3) := by decide +kernel
theorem dX4_makePlan_30 : decode cX4_makePlan 30 = .ok (.ifCond .eq 52, 3) := by decide +kernel
theorem dX4_makePlan_33 : decode cX4_makePlan 33 = .ok (.aload_n 0, 1) := by decide +kernel
theorem dX4_makePlan_34 : decode cX4_makePlan 34 = .ok (.invokevirtual 173, 3) := by decide +kernel
theorem dX4_makePlan_37 : decode cX4_makePlan 37 = .ok (.istore_n 3, 1) := by decide +kernel
theorem dX4_makePlan_38 : decode cX4_makePlan 38 = .ok (.aload_n 0, 1) := by decide +kernel
theorem dX4_makePlan_39 : decode cX4_makePlan 39 = .ok (.getfield 36, 3) := by decide +kernel
theorem dX4_makePlan_42 : decode cX4_makePlan 42 = .ok (.iload_n 2, 1) := by decide +kernel
theorem dX4_makePlan_43 : decode cX4_makePlan 43 = .ok (.iload_n 3, 1) := by decide +kernel
theorem dX4_makePlan_44 : decode cX4_makePlan 44 = .ok (.iastore, 1) := by decide +kernel
theorem dX4_makePlan_45 : decode cX4_makePlan 45 = .ok (.iload_n 3, 1) := by decide +kernel
theorem dX4_makePlan_46 : decode cX4_makePlan 46 = .ok (.ldc 176, 2) := by decide +kernel
theorem dX4_makePlan_48 : decode cX4_makePlan 48 = .ok (.if_icmp .ne 17, 3) := by decide +kernel
theorem dX4_makePlan_51 : decode cX4_makePlan 51 = .ok (.aload_n 0, 1) := by decide +kernel
theorem dX4_makePlan_52 : decode cX4_makePlan 52 = .ok (.getfield 30, 3) := by decide +kernel
theorem dX4_makePlan_55 : decode cX4_makePlan 55 = .ok (.aload_n 0, 1) := by decide +kernel
theorem dX4_makePlan_56 : decode cX4_makePlan 56 = .ok (.getfield 10, 3) := by decide +kernel
theorem dX4_makePlan_59 : decode cX4_makePlan 59 = .ok (.invokevirtual 123, 3) := by decide +kernel
theorem dX4_makePlan_62 : decode cX4_makePlan 62 = .ok (.goto 14, 3) := by decide +kernel
theorem dX4_makePlan_65 : decode cX4_makePlan 65 = .ok (.aload_n 0, 1) := by decide +kernel
theorem dX4_makePlan_66 : decode cX4_makePlan 66 = .ok (.getfield 30, 3) := by decide +kernel
theorem dX4_makePlan_69 : decode cX4_makePlan 69 = .ok (.aload_n 0, 1) := by decide +kernel
theorem dX4_makePlan_70 : decode cX4_makePlan 70 = .ok (.getfield 33, 3) := by decide +kernel
theorem dX4_makePlan_73 : decode cX4_makePlan 73 = .ok (.invokevirtual 169, 3) := by decide +kernel
theorem dX4_makePlan_76 : decode cX4_makePlan 76 = .ok (.iinc 2 1, 3) := by decide +kernel
theorem dX4_makePlan_79 : decode cX4_makePlan 79 = .ok (.goto (-66), 3) := by decide +kernel
theorem dX4_makePlan_82 : decode cX4_makePlan 82 = .ok (.aload_n 0, 1) := by decide +kernel
theorem dX4_makePlan_83 : decode cX4_makePlan 83 = .ok (.getfield 30, 3) := by decide +kernel
theorem dX4_makePlan_86 : decode cX4_makePlan 86 = .ok (.iload_n 1, 1) := by decide +kernel
theorem dX4_makePlan_87 : decode cX4_makePlan 87 = .ok (.invokevirtual 147, 3) := by decide +kernel
theorem dX4_makePlan_90 : decode cX4_makePlan 90 = .ok (.ifCond .eq 8, 3) := by decide +kernel
theorem dX4_makePlan_93 : decode cX4_makePlan 93 = .ok (.ldc 140, 2) := by decide +kernel
theorem dX4_makePlan_95 : decode cX4_makePlan 95 = .ok (.goto 4, 3) := by decide +kernel
theorem dX4_makePlan_98 : decode cX4_makePlan 98 = .ok (.iload_n 2, 1) := by decide +kernel
theorem dX4_makePlan_99 : decode cX4_makePlan 99 = .ok (.ireturn, 1) := by decide +kernel
set_option maxRecDepth 20000 in
theorem ggX4_chooseInlet_X1_copyFrom : GoodIn wsX4_chooseInlet wsX1_copyFrom := goodIn_r _ [10, 11, 12, 13, 14, 15, 16, 17, 18, 19, 20, 21, 22, 23, 24, 25, 26, 27, 28, 29, 30, 31, 32, 33, 34, 35, 36, 37, 38, 39, 40, 41, 42, 43, 44, 45, 46, 47, 48, 49, 50, 51, 102, 103, 104, 105, 106, 107, 108, 109, 110] (by decide +kernel) (by decide +kernel)
set_option maxRecDepth 20000 in
theorem gX4_chooseInlet_X1_copyFrom : GoodIn wsX4_chooseInlet (wsV RX4 169 RX1 yX1_copyFrom wsX1_copyFrom) := goodIn_app (goodIn_of _ (by decide +kernel)) ggX4_chooseInlet_X1_copyFrom
set_option maxRecDepth 20000 in
theorem ggX4_chooseInlet_X1_passDryingHour : GoodIn wsX4_chooseInlet wsX1_passDryingHour := goodIn_r _ [55, 11, 13, 56, 57, 58, 46, 59, 12, 60, 15, 16, 17, 18, 19, 20, 61, 62, 63, 21, 22, 23, 24, 25, 26, 27, 28, 29, 30, 31, 32, 33, 34, 35, 36, 37, 64, 65, 66, 41, 67, 68, 43, 69, 70, 71, 72, 73, 74, 75, 76, 77, 9, 78, 14, 102, 103, 104, 96, 97, 98, 99, 100, 101, 105, 106, 107, 108, 109, 110] (by decide +kernel) (by decide +kernel)
set_option maxRecDepth 20000 in
theorem gX4_chooseInlet_X1_passDryingHour : GoodIn wsX4_chooseInlet (wsV RX4 156 RX1 yX1_passDryingHour wsX1_passDryingHour) := goodIn_app (goodIn_of _ (by decide +kernel)) ggX4_chooseInlet_X1_passDryingHour
set_option maxRecDepth 20000 in
theorem ggX4_chooseInlet_X1_greatestGradient : GoodIn wsX4_chooseInlet wsX1_greatestGradient := goodIn_r _ [82, 11, 12, 57, 58, 46, 59, 15, 16, 17, 18, 19, 20, 21, 22, 23, 24, 25, 26, 27, 28, 29, 30, 31, 32, 33, 34, 35, 36, 37, 83, 84, 85, 41, 86, 43, 87, 44, 45, 47, 102, 103, 104, 105, 106, 107, 108, 109, 110] (by decide +kernel) (by decide +kernel)
set_option maxRecDepth 20000 in
theorem gX4_chooseInlet_X1_greatestGradient : GoodIn wsX4_chooseInlet (wsV RX4 177 RX1 yX1_greatestGradient wsX1_greatestGradient) := goodIn_app (goodIn_of _ (by decide +kernel)) ggX4_chooseInlet_X1_greatestGradient
theorem dX4_chooseInlet_0 : decode cX4_chooseInlet 0 = .ok (.iconst 0, 1) := by decide +kernel
theorem dX4_chooseInlet_1 : decode cX4_chooseInlet 1 = .ok (.istore_n 1, 1) := by decide +kernel
theorem dX4_chooseInlet_2 : decode cX4_chooseInlet 2 = .ok (.iload_n 1, 1) := by decide +kernel
theorem dX4_chooseInlet_3 : decode cX4_chooseInlet 3 = .ok (.sipush 300, 3) := by decide +kernel
theorem dX4_chooseInlet_6 : decode cX4_chooseInlet 6 = .ok (.if_icmp .gt 52, 3) := by decide +kernel
theorem dX4_chooseInlet_9 : decode cX4_chooseInlet 9 = .ok (.aload_n 0, 1) := by decide +kernel
theorem dX4_chooseInlet_10 : decode cX4_chooseInlet 10 = .ok (.getfield 33, 3) := by decide +kernel
theorem dX4_chooseInlet_13 : decode cX4_chooseInlet 13 = .ok (.aload_n 0, 1) := by decide +kernel
theorem dX4_chooseInlet_14 : decode cX4_chooseInlet 14 = .ok (.getfield 30, 3) := by decide +kernel
theorem dX4_chooseInlet_17 : decode cX4_chooseInlet 17 = .ok (.invokevirtual 169, 3) := by decide +kernel
theorem dX4_chooseInlet_20 : decode cX4_chooseInlet 20 = .ok (.aload_n 0, 1) := by decide +kernel
theorem dX4_chooseInlet_21 : decode cX4_chooseInlet 21 = .ok (.getfield 33, 3) := by decide +kernel
theorem dX4_chooseInlet_24 : decode cX4_chooseInlet 24 = .ok (.iload_n 1, 1) := by decide +kernel
theorem dX4_chooseInlet_25 : decode cX4_chooseInlet 25 = .ok (.aload_n 0, 1) := by decide +kernel
theorem dX4_chooseInlet_26 : decode cX4_chooseInlet 26 = .ok (.getfield 10, 3) := by decide +kernel
theorem dX4_chooseInlet_29 : decode cX4_chooseInlet 29 = .ok (.invokevirtual 156, 3) := by decide +kernel
theorem dX4_chooseInlet_32 : decode cX4_chooseInlet 32 = .ok (.pop, 1) := by decide +kernel
theorem dX4_chooseInlet_33 : decode cX4_chooseInlet 33 = .ok (.aload_n 0, 1) := by decide +kernel
theorem dX4_chooseInlet_34 : decode cX4_chooseInlet 34 = .ok (.getfield 33, 3) := by decide +kernel
theorem dX4_chooseInlet_37 : decode cX4_chooseInlet 37 = .ok (.invokevirtual 177, 3) := by decide +kernel
theorem dX4_chooseInlet_40 : decode cX4_chooseInlet 40 = .ok (.aload_n 0, 1) := by decide +kernel
theorem dX4_chooseInlet_41 : decode cX4_chooseInlet 41 = .ok (.getfield 10, 3) := by decide +kernel
theorem dX4_chooseInlet_44 : decode cX4_chooseInlet 44 = .ok (.getfield 107, 3) := by decide +kernel
theorem dX4_chooseInlet_47 : decode cX4_chooseInlet 47 = .ok (.if_icmp .gt 5, 3) := by decide +kernel
theorem dX4_chooseInlet_50 : decode cX4_chooseInlet 50 = .ok (.iload_n 1, 1) := by decide +kernel
theorem dX4_chooseInlet_51 : decode cX4_chooseInlet 51 = .ok (.ireturn, 1) := by decide +kernel
theorem dX4_chooseInlet_52 : decode cX4_chooseInlet 52 = .ok (.iinc 1 10, 3) := by decide +kernel
theorem dX4_chooseInlet_55 : decode cX4_chooseInlet 55 = .ok (.goto (-53), 3) := by decide +kernel
theorem dX4_chooseInlet_58 : decode cX4_chooseInlet 58 = .ok (.ldc 176, 2) := by decide +kernel
theorem dX4_chooseInlet_60 : decode cX4_chooseInlet 60 = .ok (.ireturn, 1) := by decide +kernel
theorem dX5_init_0 : decode cX5_init 0 = .ok (.aload_n 0, 1) := by decide +kernel
theorem dX5_init_1 : decode cX5_init 1 = .ok (.invokespecial 1, 3) := by decide +kernel
theorem dX5_init_4 : decode cX5_init 4 = .ok (.aload_n 0, 1) := by decide +kernel
theorem dX5_init_5 : decode cX5_init 5 = .ok (.bipush 6, 2) := by decide +kernel
theorem dX5_init_7 : decode cX5_init 7 = .ok (.newarray .int, 2) := by decide +kernel
theorem dX5_init_9 : decode cX5_init 9 = .ok (.putfield 7, 3) := by decide +kernel
theorem dX5_init_12 : decode cX5_init 12 = .ok (.aload_n 0, 1) := by decide +kernel
theorem dX5_init_13 : decode cX5_init 13 = .ok (.bipush 54, 2) := by decide +kernel
theorem dX5_init_15 : decode cX5_init 15 = .ok (.newarray .int, 2) := by decide +kernel
theorem dX5_init_17 : decode cX5_init 17 = .ok (.putfield 13, 3) := by decide +kernel
theorem dX5_init_20 : decode cX5_init 20 = .ok (.aload_n 0, 1) := by decide +kernel
theorem dX5_init_21 : decode cX5_init 21 = .ok (.bipush 6, 2) := by decide +kernel
theorem dX5_init_23 : decode cX5_init 23 = .ok (.newarray .int, 2) := by decide +kernel
theorem dX5_init_25 : decode cX5_init 25 = .ok (.putfield 16, 3) := by decide +kernel
theorem dX5_init_28 : decode cX5_init 28 = .ok (.aload_n 0, 1) := by decide +kernel
theorem dX5_init_29 : decode cX5_init 29 = .ok (.bipush 6, 2) := by decide +kernel
theorem dX5_init_31 : decode cX5_init 31 = .ok (.newarray .int, 2) := by decide +kernel
theorem dX5_init_33 : decode cX5_init 33 = .ok (.putfield 19, 3) := by decide +kernel
theorem dX5_init_36 : decode cX5_init 36 = .ok (.aload_n 0, 1) := by decide +kernel
theorem dX5_init_37 : decode cX5_init 37 = .ok (.sipush 200, 3) := by decide +kernel
theorem dX5_init_40 : decode cX5_init 40 = .ok (.putfield 22, 3) := by decide +kernel
theorem dX5_init_43 : decode cX5_init 43 = .ok (.aload_n 0, 1) := by decide +kernel
theorem dX5_init_44 : decode cX5_init 44 = .ok (.bipush 50, 2) := by decide +kernel
theorem dX5_init_46 : decode cX5_init 46 = .ok (.putfield 26, 3) := by decide +kernel
theorem dX5_init_49 : decode cX5_init 49 = .ok (.aload_n 0, 1) := by decide +kernel
theorem dX5_init_50 : decode cX5_init 50 = .ok (.sipush 200, 3) := by decide +kernel
theorem dX5_init_53 : decode cX5_init 53 = .ok (.putfield 29, 3) := by decide +kernel
theorem dX5_init_56 : decode cX5_init 56 = .ok (.aload_n 0, 1) := by decide +kernel
theorem dX5_init_57 : decode cX5_init 57 = .ok (.bipush 120, 2) := by decide +kernel
theorem dX5_init_59 : decode cX5_init 59 = .ok (.putfield 32, 3) := by decide +kernel
theorem dX5_init_62 : decode cX5_init 62 = .ok (.aload_n 0, 1) := by decide +kernel
theorem dX5_init_63 : decode cX5_init 63 = .ok (.bipush 10, 2) := by decide +kernel
theorem dX5_init_65 : decode cX5_init 65 = .ok (.newarray .int, 2) := by decide +kernel
theorem dX5_init_67 : decode cX5_init 67 = .ok (.putfield 35, 3) := by decide +kernel
theorem dX5_init_70 : decode cX5_init 70 = .ok (.aload_n 0, 1) := by decide +kernel
theorem dX5_init_71 : decode cX5_init 71 = .ok (.bipush 8, 2) := by decide +kernel
theorem dX5_init_73 : decode cX5_init 73 = .ok (.newarray .int, 2) := by decide +kernel
theorem dX5_init_75 : decode cX5_init 75 = .ok (.putfield 38, 3) := by decide +kernel
theorem dX5_init_78 : decode cX5_init 78 = .ok (.aload_n 0, 1) := by decide +kernel
theorem dX5_init_79 : decode cX5_init 79 = .ok (.bipush 8, 2) := by decide +kernel
theorem dX5_init_81 : decode cX5_init 81 = .ok (.newarray .int, 2) := by decide +kernel
theorem dX5_init_83 : decode cX5_init 83 = .ok (.putfield 41, 3) := by decide +kernel
theorem dX5_init_86 : decode cX5_init 86 = .ok (.aload_n 0, 1) := by decide +kernel
theorem dX5_init_87 : decode cX5_init 87 = .ok (.bipush 54, 2) := by decide +kernel
theorem dX5_init_89 : decode cX5_init 89 = .ok (.newarray .int, 2) := by decide +kernel
theorem dX5_init_91 : decode cX5_init 91 = .ok (.putfield 44, 3) := by decide +kernel
theorem dX5_init_94 : decode cX5_init 94 = .ok (.aload_n 0, 1) := by decide +kernel
theorem dX5_init_95 : decode cX5_init 95 = .ok (.bipush 6, 2) := by decide +kernel
theorem dX5_init_97 : decode cX5_init 97 = .ok (.newarray .int, 2) := by decide +kernel
theorem dX5_init_99 : decode cX5_init 99 = .ok (.putfield 47, 3) := by decide +kernel
theorem dX5_init_102 : decode cX5_init 102 = .ok (.aload_n 0, 1) := by decide +kernel
theorem dX5_init_103 : decode cX5_init 103 = .ok (.bipush 54, 2) := by decide +kernel
theorem dX5_init_105 : decode cX5_init 105 = .ok (.newarray .int, 2) := by decide +kernel
theorem dX5_init_107 : decode cX5_init 107 = .ok (.putfield 50, 3) := by decide +kernel
theorem dX5_init_110 : decode cX5_init 110 = .ok (.aload_n 0, 1) := by decide +kernel
theorem dX5_init_111 : decode cX5_init 111 = .ok (.sipush 300, 3) := by decide +kernel
theorem dX5_init_114 : decode cX5_init 114 = .ok (.newarray .int, 2) := by decide +kernel
theorem dX5_init_116 : decode cX5_init 116 = .ok (.putfield 53, 3) := by decide +kernel
theorem dX5_init_119 : decode cX5_init 119 = .ok (.aload_n 0, 1) := by decide +kernel
theorem dX5_init_120 : decode cX5_init 120 = .ok (.bipush 100, 2) := by decide +kernel
theorem dX5_init_122 : decode cX5_init 122 = .ok (.putfield 56, 3) := by decide +kernel
theorem dX5_init_125 : decode cX5_init 125 = .ok (.return_, 1) := by decide +kernel
theorem dX5_isBetween_0 : decode cX5_isBetween 0 = .ok (.iload_n 0, 1) := by decide +kernel
theorem dX5_isBetween_1 : decode cX5_isBetween 1 = .ok (.iload_n 1, 1) := by decide +kernel
theorem dX5_isBetween_2 : decode cX5_isBetween 2 = .ok (.if_icmp .lt 12, 3) := by decide +kernel
theorem dX5_isBetween_5 : decode cX5_isBetween 5 = .ok (.iload_n 0, 1) := by decide +kernel
theorem dX5_isBetween_6 : decode cX5_isBetween 6 = .ok (.iload_n 2, 1) := by decide +kernel
theorem dX5_isBetween_7 : decode cX5_isBetween 7 = .ok (.if_icmp .gt 7, 3) := by decide +kernel
theorem dX5_isBetween_10 : decode cX5_isBetween 10 = .ok (.iconst 1, 1) := by decide +kernel
theorem dX5_isBetween_11 : decode cX5_isBetween 11 = .ok (.goto 4, 3) := by decide +kernel
theorem dX5_isBetween_14 : decode cX5_isBetween 14 = .ok (.iconst 0, 1) := by decide +kernel
theorem dX5_isBetween_15 : decode cX5_isBetween 15 = .ok (.ireturn, 1) := by decide +kernel
set_option maxRecDepth 20000 in
theorem ggX5_isBoard_X5_isBetween : GoodIn wsX5_isBoard wsX5_isBetween := goodIn_r _ [5] (by decide +kernel) (by decide +kernel)
set_option maxRecDepth 20000 in
theorem gX5_isBoard_X5_isBetween : GoodIn wsX5_isBoard (va_wsS RX5 62 yX5_isBetween wsX5_isBetween) := goodIn_app (goodIn_of _ (by decide +kernel)) ggX5_isBoard_X5_isBetween
theorem dX5_isBoard_0 : decode cX5_isBoard 0 = .ok (.iload_n 1, 1) := by decide +kernel
theorem dX5_isBoard_1 : decode cX5_isBoard 1 = .ok (.iconst 0, 1) := by decide +kernel
theorem dX5_isBoard_2 : decode cX5_isBoard 2 = .ok (.aload_n 0, 1) := by decide +kernel
theorem dX5_isBoard_3 : decode cX5_isBoard 3 = .ok (.getfield 59, 3) := by decide +kernel
theorem dX5_isBoard_6 : decode cX5_isBoard 6 = .ok (.iconst 1, 1) := by decide +kernel
theorem dX5_isBoard_7 : decode cX5_isBoard 7 = .ok (.isub, 1) := by decide +kernel
theorem dX5_isBoard_8 : decode cX5_isBoard 8 = .ok (.invokestatic 62, 3) := by decide +kernel
theorem dX5_isBoard_11 : decode cX5_isBoard 11 = .ok (.ireturn, 1) := by decide +kernel
set_option maxRecDepth 20000 in
theorem ggX5_addBoard_X5_isBetween : GoodIn wsX5_addBoard wsX5_isBetween := goodIn_r _ [12] (by decide +kernel) (by decide +kernel)
set_option maxRecDepth 20000 in
theorem gX5_addBoard_X5_isBetween : GoodIn wsX5_addBoard (va_wsS RX5 62 yX5_isBetween wsX5_isBetween) := goodIn_app (goodIn_of _ (by decide +kernel)) ggX5_addBoard_X5_isBetween
theorem dX5_addBoard_0 : decode cX5_addBoard 0 = .ok (.iload_n 1, 1) := by decide +kernel
theorem dX5_addBoard_1 : decode cX5_addBoard 1 = .ok (.iconst 3, 1) := by decide +kernel
theorem dX5_addBoard_2 : decode cX5_addBoard 2 = .ok (.bipush 9, 2) := by decide +kernel
theorem dX5_addBoard_4 : decode cX5_addBoard 4 = .ok (.invokestatic 62, 3) := by decide +kernel
theorem dX5_addBoard_7 : decode cX5_addBoard 7 = .ok (.ifCond .eq 14, 3) := by decide +kernel
theorem dX5_addBoard_10 : decode cX5_addBoard 10 = .ok (.iload_n 2, 1) := by decide +kernel
theorem dX5_addBoard_11 : decode cX5_addBoard 11 = .ok (.iconst 0, 1) := by decide +kernel
theorem dX5_addBoard_12 : decode cX5_addBoard 12 = .ok (.sipush 2000, 3) := by decide +kernel
theorem dX5_addBoard_15 : decode cX5_addBoard 15 = .ok (.invokestatic 62, 3) := by decide +kernel
theorem dX5_addBoard_18 : decode cX5_addBoard 18 = .ok (.ifCond .ne 6, 3) := by decide +kernel
theorem dX5_addBoard_21 : decode cX5_addBoard 21 = .ok (.ldc 66, 2) := by decide +kernel
theorem dX5_addBoard_23 : decode cX5_addBoard 23 = .ok (.ireturn, 1) := by decide +kernel
theorem dX5_addBoard_24 : decode cX5_addBoard 24 = .ok (.aload_n 0, 1) := by decide +kernel
theorem dX5_addBoard_25 : decode cX5_addBoard 25 = .ok (.getfield 59, 3) := by decide +kernel
theorem dX5_addBoard_28 : decode cX5_addBoard 28 = .ok (.bipush 6, 2) := by decide +kernel
theorem dX5_addBoard_30 : decode cX5_addBoard 30 = .ok (.if_icmp .ne 6, 3) := by decide +kernel
theorem dX5_addBoard_33 : decode cX5_addBoard 33 = .ok (.ldc 67, 2) := by decide +kernel
theorem dX5_addBoard_35 : decode cX5_addBoard 35 = .ok (.ireturn, 1) := by decide +kernel
theorem dX5_addBoard_36 : decode cX5_addBoard 36 = .ok (.aload_n 0, 1) := by decide +kernel
theorem dX5_addBoard_37 : decode cX5_addBoard 37 = .ok (.getfield 7, 3) := by decide +kernel
theorem dX5_addBoard_40 : decode cX5_addBoard 40 = .ok (.aload_n 0, 1) := by decide +kernel
theorem dX5_addBoard_41 : decode cX5_addBoard 41 = .ok (.getfield 59, 3) := by decide +kernel
theorem dX5_addBoard_44 : decode cX5_addBoard 44 = .ok (.iload_n 1, 1) := by decide +kernel
theorem dX5_addBoard_45 : decode cX5_addBoard 45 = .ok (.iastore, 1) := by decide +kernel
theorem dX5_addBoard_46 : decode cX5_addBoard 46 = .ok (.aload_n 0, 1) := by decide +kernel
theorem dX5_addBoard_47 : decode cX5_addBoard 47 = .ok (.getfield 16, 3) := by decide +kernel
theorem dX5_addBoard_50 : decode cX5_addBoard 50 = .ok (.aload_n 0, 1) := by decide +kernel
theorem dX5_addBoard_51 : decode cX5_addBoard 51 = .ok (.getfield 59, 3) := by decide +kernel
theorem dX5_addBoard_54 : decode cX5_addBoard 54 = .ok (.ldc 68, 2) := by decide +kernel
theorem dX5_addBoard_56 : decode cX5_addBoard 56 = .ok (.iastore, 1) := by decide +kernel
theorem dX5_addBoard_57 : decode cX5_addBoard 57 = .ok (.aload_n 0, 1) := by decide +kernel
theorem dX5_addBoard_58 : decode cX5_addBoard 58 = .ok (.getfield 19, 3) := by decide +kernel
theorem dX5_addBoard_61 : decode cX5_addBoard 61 = .ok (.aload_n 0, 1) := by decide +kernel
theorem dX5_addBoard_62 : decode cX5_addBoard 62 = .ok (.getfield 59, 3) := by decide +kernel
theorem dX5_addBoard_65 : decode cX5_addBoard 65 = .ok (.ldc 68, 2) := by decide +kernel
theorem dX5_addBoard_67 : decode cX5_addBoard 67 = .ok (.iastore, 1) := by decide +kernel
theorem dX5_addBoard_68 : decode cX5_addBoard 68 = .ok (.iconst 0, 1) := by decide +kernel
theorem dX5_addBoard_69 : decode cX5_addBoard 69 = .ok (.istore_n 3, 1) := by decide +kernel
theorem dX5_addBoard_70 : decode cX5_addBoard 70 = .ok (.iload_n 3, 1) := by decide +kernel
theorem dX5_addBoard_71 : decode cX5_addBoard 71 = .ok (.iload_n 1, 1) := by decide +kernel
theorem dX5_addBoard_72 : decode cX5_addBoard 72 = .ok (.if_icmp .ge 24, 3) := by decide +kernel
theorem dX5_addBoard_75 : decode cX5_addBoard 75 = .ok (.aload_n 0, 1) := by decide +kernel
theorem dX5_addBoard_76 : decode cX5_addBoard 76 = .ok (.getfield 13, 3) := by decide +kernel
theorem dX5_addBoard_79 : decode cX5_addBoard 79 = .ok (.bipush 9, 2) := by decide +kernel
theorem dX5_addBoard_81 : decode cX5_addBoard 81 = .ok (.aload_n 0, 1) := by decide +kernel
theorem dX5_addBoard_82 : decode cX5_addBoard 82 = .ok (.getfield 59, 3) := by decide +kernel
theorem dX5_addBoard_85 : decode cX5_addBoard 85 = .ok (.imul, 1) := by decide +kernel
theorem dX5_addBoard_86 : decode cX5_addBoard 86 = .ok (.iload_n 3, 1) := by decide +kernel
theorem dX5_addBoard_87 : decode cX5_addBoard 87 = .ok (.iadd, 1) := by decide +kernel
theorem dX5_addBoard_88 : decode cX5_addBoard 88 = .ok (.iload_n 2, 1) := by decide +kernel
theorem dX5_addBoard_89 : decode cX5_addBoard 89 = .ok (.iastore, 1) := by decide +kernel
theorem dX5_addBoard_90 : decode cX5_addBoard 90 = .ok (.iinc 3 1, 3) := by decide +kernel
theorem dX5_addBoard_93 : decode cX5_addBoard 93 = .ok (.goto (-23), 3) := by decide +kernel
theorem dX5_addBoard_96 : decode cX5_addBoard 96 = .ok (.aload_n 0, 1) := by decide +kernel
theorem dX5_addBoard_97 : decode cX5_addBoard 97 = .ok (.dup, 1) := by decide +kernel
theorem dX5_addBoard_98 : decode cX5_addBoard 98 = .ok (.getfield 59, 3) := by decide +kernel
theorem dX5_addBoard_101 : decode cX5_addBoard 101 = .ok (.iconst 1, 1) := by decide +kernel
theorem dX5_addBoard_102 : decode cX5_addBoard 102 = .ok (.iadd, 1) := by decide +kernel
theorem dX5_addBoard_103 : decode cX5_addBoard 103 = .ok (.putfield 59, 3) := by decide +kernel
theorem dX5_addBoard_106 : decode cX5_addBoard 106 = .ok (.aload_n 0, 1) := by decide +kernel
theorem dX5_addBoard_107 : decode cX5_addBoard 107 = .ok (.getfield 59, 3) := by decide +kernel
theorem dX5_addBoard_110 : decode cX5_addBoard 110 = .ok (.iconst 1, 1) := by decide +kernel
theorem dX5_addBoard_111 : decode cX5_addBoard 111 = .ok (.isub, 1) := by decide +kernel
theorem dX5_addBoard_112 : decode cX5_addBoard 112 = .ok (.ireturn, 1) := by decide +kernel
set_option maxRecDepth 20000 in
theorem ggX5_checkLayer_X5_isBoard : GoodIn wsX5_checkLayer wsX5_isBoard := goodIn_r _ [8, 9, 10, 11, 7, 12, 13, 14, 15, 16, 17, 18, 19, 20, 21, 22, 23, 24, 25, 26, 27, 28, 29, 30, 31, 32, 33, 34, 35, 36] (by decide +kernel) (by decide +kernel)
set_option maxRecDepth 20000 in
theorem gX5_checkLayer_X5_isBoard : GoodIn wsX5_checkLayer (wsV RX5 69 RX5 yX5_isBoard wsX5_isBoard) := goodIn_app (goodIn_of _ (by decide +kernel)) ggX5_checkLayer_X5_isBoard
set_option maxRecDepth 20000 in
theorem ggX5_checkLayer_X5_isBetween : GoodIn wsX5_checkLayer wsX5_isBetween := goodIn_r _ [12] (by decide +kernel) (by decide +kernel)
set_option maxRecDepth 20000 in
theorem gX5_checkLayer_X5_isBetween : GoodIn wsX5_checkLayer (va_wsS RX5 62 yX5_isBetween wsX5_isBetween) := goodIn_app (goodIn_of _ (by decide +kernel)) ggX5_checkLayer_X5_isBetween
theorem dX5_checkLayer_0 : decode cX5_checkLayer 0 = .ok (.aload_n 0, 1) := by decide +kernel
theorem dX5_checkLayer_1 : decode cX5_checkLayer 1 = .ok (.iload_n 1, 1) := by decide +kernel
theorem dX5_checkLayer_2 : decode cX5_checkLayer 2 = .ok (.invokevirtual 69, 3) := by decide +kernel
theorem dX5_checkLayer_5 : decode cX5_checkLayer 5 = .ok (.ifCond .ne 8, 3) := by decide +kernel
theorem dX5_checkLayer_8 : decode cX5_checkLayer 8 = .ok (.ldc 73, 2) := by decide +kernel
theorem dX5_checkLayer_10 : decode cX5_checkLayer 10 = .ok (.goto 25, 3) := by decide +kernel
theorem dX5_checkLayer_13 : decode cX5_checkLayer 13 = .ok (.iload_n 2, 1) := by decide +kernel
theorem dX5_checkLayer_14 : decode cX5_checkLayer 14 = .ok (.iconst 0, 1) := by decide +kernel
theorem dX5_checkLayer_15 : decode cX5_checkLayer 15 = .ok (.aload_n 0, 1) := by decide +kernel
theorem dX5_checkLayer_16 : decode cX5_checkLayer 16 = .ok (.getfield 7, 3) := by decide +kernel
theorem dX5_checkLayer_19 : decode cX5_checkLayer 19 = .ok (.iload_n 1, 1) := by decide +kernel
theorem dX5_checkLayer_20 : decode cX5_checkLayer 20 = .ok (.iaload, 1) := by decide +kernel
theorem dX5_checkLayer_21 : decode cX5_checkLayer 21 = .ok (.iconst 1, 1) := by decide +kernel
theorem dX5_checkLayer_22 : decode cX5_checkLayer 22 = .ok (.isub, 1) := by decide +kernel
theorem dX5_checkLayer_23 : decode cX5_checkLayer 23 = .ok (.invokestatic 62, 3) := by decide +kernel
theorem dX5_checkLayer_26 : decode cX5_checkLayer 26 = .ok (.ifCond .eq 7, 3) := by decide +kernel
theorem dX5_checkLayer_29 : decode cX5_checkLayer 29 = .ok (.iconst 0, 1) := by decide +kernel
theorem dX5_checkLayer_30 : decode cX5_checkLayer 30 = .ok (.goto 5, 3) := by decide +kernel
theorem dX5_checkLayer_33 : decode cX5_checkLayer 33 = .ok (.ldc 74, 2) := by decide +kernel
theorem dX5_checkLayer_35 : decode cX5_checkLayer 35 = .ok (.ireturn, 1) := by decide +kernel
set_option maxRecDepth 20000 in
theorem ggX5_setLayer_X5_checkLayer : GoodIn wsX5_setLayer wsX5_checkLayer := goodIn_r _ [7, 8, 9, 10, 11, 12, 13, 6, 14, 15, 16, 17, 18, 19, 20, 21, 22, 23, 24, 25, 26, 27, 28, 29, 30, 31, 32, 33, 34, 35, 36, 37, 38, 39, 40, 41, 42] (by decide +kernel) (by decide +kernel)
set_option maxRecDepth 20000 in
theorem gX5_setLayer_X5_checkLayer : GoodIn wsX5_setLayer (wsV RX5 75 RX5 yX5_checkLayer wsX5_checkLayer) := goodIn_app (goodIn_of _ (by decide +kernel)) ggX5_setLayer_X5_checkLayer
set_option maxRecDepth 20000 in
theorem ggX5_setLayer_X5_isBetween : GoodIn wsX5_setLayer wsX5_isBetween := goodIn_r _ [18] (by decide +kernel) (by decide +kernel)
set_option maxRecDepth 20000 in
theorem gX5_setLayer_X5_isBetween : GoodIn wsX5_setLayer (va_wsS RX5 62 yX5_isBetween wsX5_isBetween) := goodIn_app (goodIn_of _ (by decide +kernel)) ggX5_setLayer_X5_isBetween
theorem dX5_setLayer_0 : decode cX5_setLayer 0 = .ok (.aload_n 0, 1) := by decide +kernel
theorem dX5_setLayer_1 : decode cX5_setLayer 1 = .ok (.iload_n 1, 1) := by decide +kernel
theorem dX5_setLayer_2 : decode cX5_setLayer 2 = .ok (.iload_n 2, 1) := by decide +kernel
theorem dX5_setLayer_3 : decode cX5_setLayer 3 = .ok (.invokevirtual 75, 3) := by decide +kernel
theorem dX5_setLayer_6 : decode cX5_setLayer 6 = .ok (.istore 4, 2) := by decide +kernel
theorem dX5_setLayer_8 : decode cX5_setLayer 8 = .ok (.iload 4, 2) := by decide +kernel
theorem dX5_setLayer_10 : decode cX5_setLayer 10 = .ok (.ifCond .ge 6, 3) := by decide +kernel
theorem dX5_setLayer_13 : decode cX5_setLayer 13 = .ok (.iload 4, 2) := by decide +kernel
theorem dX5_setLayer_15 : decode cX5_setLayer 15 = .ok (.ireturn, 1) := by decide +kernel
theorem dX5_setLayer_16 : decode cX5_setLayer 16 = .ok (.iload_n 3, 1) := by decide +kernel
theorem dX5_setLayer_17 : decode cX5_setLayer 17 = .ok (.iconst 0, 1) := by decide +kernel
theorem dX5_setLayer_18 : decode cX5_setLayer 18 = .ok (.sipush 2000, 3) := by decide +kernel
theorem dX5_setLayer_21 : decode cX5_setLayer 21 = .ok (.invokestatic 62, 3) := by decide +kernel
theorem dX5_setLayer_24 : decode cX5_setLayer 24 = .ok (.ifCond .ne 6, 3) := by decide +kernel
theorem dX5_setLayer_27 : decode cX5_setLayer 27 = .ok (.ldc 66, 2) := by decide +kernel
theorem dX5_setLayer_29 : decode cX5_setLayer 29 = .ok (.ireturn, 1) := by decide +kernel
theorem dX5_setLayer_30 : decode cX5_setLayer 30 = .ok (.aload_n 0, 1) := by decide +kernel
theorem dX5_setLayer_31 : decode cX5_setLayer 31 = .ok (.getfield 13, 3) := by decide +kernel
theorem dX5_setLayer_34 : decode cX5_setLayer 34 = .ok (.bipush 9, 2) := by decide +kernel
theorem dX5_setLayer_36 : decode cX5_setLayer 36 = .ok (.iload_n 1, 1) := by decide +kernel
theorem dX5_setLayer_37 : decode cX5_setLayer 37 = .ok (.imul, 1) := by decide +kernel
theorem dX5_setLayer_38 : decode cX5_setLayer 38 = .ok (.iload_n 2, 1) := by decide +kernel
theorem dX5_setLayer_39 : decode cX5_setLayer 39 = .ok (.iadd, 1) := by decide +kernel
theorem dX5_setLayer_40 : decode cX5_setLayer 40 = .ok (.iaload, 1) := by decide +kernel
theorem dX5_setLayer_41 : decode cX5_setLayer 41 = .ok (.istore 5, 2) := by decide +kernel
theorem dX5_setLayer_43 : decode cX5_setLayer 43 = .ok (.aload_n 0, 1) := by decide +kernel
theorem dX5_setLayer_44 : decode cX5_setLayer 44 = .ok (.getfield 13, 3) := by decide +kernel
theorem dX5_setLayer_47 : decode cX5_setLayer 47 = .ok (.bipush 9, 2) := by decide +kernel
theorem dX5_setLayer_49 : decode cX5_setLayer 49 = .ok (.iload_n 1, 1) := by decide +kernel
theorem dX5_setLayer_50 : decode cX5_setLayer 50 = .ok (.imul, 1) := by decide +kernel
theorem dX5_setLayer_51 : decode cX5_setLayer 51 = .ok (.iload_n 2, 1) := by decide +kernel
theorem dX5_setLayer_52 : decode cX5_setLayer 52 = .ok (.iadd, 1) := by decide +kernel
theorem dX5_setLayer_53 : decode cX5_setLayer 53 = .ok (.iload_n 3, 1) := by decide +kernel
theorem dX5_setLayer_54 : decode cX5_setLayer 54 = .ok (.iastore, 1) := by decide +kernel
theorem dX5_setLayer_55 : decode cX5_setLayer 55 = .ok (.iload 5, 2) := by decide +kernel
theorem dX5_setLayer_57 : decode cX5_setLayer 57 = .ok (.ireturn, 1) := by decide +kernel
set_option maxRecDepth 20000 in
theorem ggX5_layerMoisture_X5_checkLayer : GoodIn wsX5_layerMoisture wsX5_checkLayer := goodIn_r _ [6, 7, 8, 9, 10, 11, 12, 5, 13, 14, 15, 16, 17, 18, 19, 20, 21, 22, 23, 24, 25, 26, 27, 28, 29, 30, 31, 32, 33, 34, 35, 36, 37, 38, 39, 40, 41] (by decide +kernel) (by decide +kernel)
set_option maxRecDepth 20000 in
theorem gX5_layerMoisture_X5_checkLayer : GoodIn wsX5_layerMoisture (wsV RX5 75 RX5 yX5_checkLayer wsX5_checkLayer) := goodIn_app (goodIn_of _ (by decide +kernel)) ggX5_layerMoisture_X5_checkLayer
theorem dX5_layerMoisture_0 : decode cX5_layerMoisture 0 = .ok (.aload_n 0, 1) := by decide +kernel
theorem dX5_layerMoisture_1 : decode cX5_layerMoisture 1 = .ok (.iload_n 1, 1) := by decide +kernel
theorem dX5_layerMoisture_2 : decode cX5_layerMoisture 2 = .ok (.iload_n 2, 1) := by decide +kernel
theorem dX5_layerMoisture_3 : decode cX5_layerMoisture 3 = .ok (.invokevirtual 75, 3) := by decide +kernel
theorem dX5_layerMoisture_6 : decode cX5_layerMoisture 6 = .ok (.istore_n 3, 1) := by decide +kernel
theorem dX5_layerMoisture_7 : decode cX5_layerMoisture 7 = .ok (.iload_n 3, 1) := by decide +kernel
theorem dX5_layerMoisture_8 : decode cX5_layerMoisture 8 = .ok (.ifCond .ge 7, 3) := by decide +kernel
theorem dX5_layerMoisture_11 : decode cX5_layerMoisture 11 = .ok (.iload_n 3, 1) := by decide +kernel
theorem dX5_layerMoisture_12 : decode cX5_layerMoisture 12 = .ok (.goto 14, 3) := by decide +kernel
theorem dX5_layerMoisture_15 : decode cX5_layerMoisture 15 = .ok (.aload_n 0, 1) := by decide +kernel
theorem dX5_layerMoisture_16 : decode cX5_layerMoisture 16 = .ok (.getfield 13, 3) := by decide +kernel
theorem dX5_layerMoisture_19 : decode cX5_layerMoisture 19 = .ok (.bipush 9, 2) := by decide +kernel
theorem dX5_layerMoisture_21 : decode cX5_layerMoisture 21 = .ok (.iload_n 1, 1) := by decide +kernel
theorem dX5_layerMoisture_22 : decode cX5_layerMoisture 22 = .ok (.imul, 1) := by decide +kernel
theorem dX5_layerMoisture_23 : decode cX5_layerMoisture 23 = .ok (.iload_n 2, 1) := by decide +kernel
theorem dX5_layerMoisture_24 : decode cX5_layerMoisture 24 = .ok (.iadd, 1) := by decide +kernel
theorem dX5_layerMoisture_25 : decode cX5_layerMoisture 25 = .ok (.iaload, 1) := by decide +kernel
theorem dX5_layerMoisture_26 : decode cX5_layerMoisture 26 = .ok (.ireturn, 1) := by decide +kernel
theorem dX5_sumOf_0 : decode cX5_sumOf 0 = .ok (.iconst 0, 1) := by decide +kernel
theorem dX5_sumOf_1 : decode cX5_sumOf 1 = .ok (.istore_n 2, 1) := by decide +kernel
theorem dX5_sumOf_2 : decode cX5_sumOf 2 = .ok (.iconst 0, 1) := by decide +kernel
theorem dX5_sumOf_3 : decode cX5_sumOf 3 = .ok (.istore_n 3, 1) := by decide +kernel
theorem dX5_sumOf_4 : decode cX5_sumOf 4 = .ok (.iload_n 3, 1) := by decide +kernel
theorem dX5_sumOf_5 : decode cX5_sumOf 5 = .ok (.aload_n 0, 1) := by decide +kernel
theorem dX5_sumOf_6 : decode cX5_sumOf 6 = .ok (.getfield 7, 3) := by decide +kernel
theorem dX5_sumOf_9 : decode cX5_sumOf 9 = .ok (.iload_n 1, 1) := by decide +kernel
theorem dX5_sumOf_10 : decode cX5_sumOf 10 = .ok (.iaload, 1) := by decide +kernel
theorem dX5_sumOf_11 : decode cX5_sumOf 11 = .ok (.if_icmp .ge 23, 3) := by decide +kernel
theorem dX5_sumOf_14 : decode cX5_sumOf 14 = .ok (.iload_n 2, 1) := by decide +kernel
theorem dX5_sumOf_15 : decode cX5_sumOf 15 = .ok (.aload_n 0, 1) := by decide +kernel
theorem dX5_sumOf_16 : decode cX5_sumOf 16 = .ok (.getfield 13, 3) := by decide +kernel
theorem dX5_sumOf_19 : decode cX5_sumOf 19 = .ok (.bipush 9, 2) := by decide +kernel
theorem dX5_sumOf_21 : decode cX5_sumOf 21 = .ok (.iload_n 1, 1) := by decide +kernel
theorem dX5_sumOf_22 : decode cX5_sumOf 22 = .ok (.imul, 1) := by decide +kernel
theorem dX5_sumOf_23 : decode cX5_sumOf 23 = .ok (.iload_n 3, 1) := by decide +kernel
theorem dX5_sumOf_24 : decode cX5_sumOf 24 = .ok (.iadd, 1) := by decide +kernel
theorem dX5_sumOf_25 : decode cX5_sumOf 25 = .ok (.iaload, 1) := by decide +kernel
theorem dX5_sumOf_26 : decode cX5_sumOf 26 = .ok (.iadd, 1) := by decide +kernel
theorem dX5_sumOf_27 : decode cX5_sumOf 27 = .ok (.istore_n 2, 1) := by decide +kernel
theorem dX5_sumOf_28 : decode cX5_sumOf 28 = .ok (.iinc 3 1, 3) := by decide +kernel
theorem dX5_sumOf_31 : decode cX5_sumOf 31 = .ok (.goto (-27), 3) := by decide +kernel
theorem dX5_sumOf_34 : decode cX5_sumOf 34 = .ok (.iload_n 2, 1) := by decide +kernel
theorem dX5_sumOf_35 : decode cX5_sumOf 35 = .ok (.ireturn, 1) := by decide +kernel
set_option maxRecDepth 20000 in
theorem ggX5_averageOf_X5_sumOf : GoodIn wsX5_averageOf wsX5_sumOf := goodIn_r _ [6, 1, 7, 8, 9, 10, 11, 12, 13, 14, 15, 16, 17, 18, 19, 20, 21, 22, 23, 24, 25, 26, 27, 28, 29, 30, 31] (by decide +kernel) (by decide +kernel)
set_option maxRecDepth 20000 in
theorem gX5_averageOf_X5_sumOf : GoodIn wsX5_averageOf (wsV RX5 79 RX5 yX5_sumOf wsX5_sumOf) := goodIn_app (goodIn_of _ (by decide +kernel)) ggX5_averageOf_X5_sumOf
theorem dX5_averageOf_0 : decode cX5_averageOf 0 = .ok (.aload_n 0, 1) := by decide +kernel
theorem dX5_averageOf_1 : decode cX5_averageOf 1 = .ok (.iload_n 1, 1) := by decide +kernel
theorem dX5_averageOf_2 : decode cX5_averageOf 2 = .ok (.invokevirtual 79, 3) := by decide +kernel
theorem dX5_averageOf_5 : decode cX5_averageOf 5 = .ok (.aload_n 0, 1) := by decide +kernel
theorem dX5_averageOf_6 : decode cX5_averageOf 6 = .ok (.getfield 7, 3) := by decide +kernel
theorem dX5_averageOf_9 : decode cX5_averageOf 9 = .ok (.iload_n 1, 1) := by decide +kernel
theorem dX5_averageOf_10 : decode cX5_averageOf 10 = .ok (.iaload, 1) := by decide +kernel
theorem dX5_averageOf_11 : decode cX5_averageOf 11 = .ok (.idiv, 1) := by decide +kernel
theorem dX5_averageOf_12 : decode cX5_averageOf 12 = .ok (.ireturn, 1) := by decide +kernel
theorem dX5_strainOf_0 : decode cX5_strainOf 0 = .ok (.iconst 0, 1) := by decide +kernel
theorem dX5_strainOf_1 : decode cX5_strainOf 1 = .ok (.istore_n 2, 1) := by decide +kernel
theorem dX5_strainOf_2 : decode cX5_strainOf 2 = .ok (.iconst 0, 1) := by decide +kernel
theorem dX5_strainOf_3 : decode cX5_strainOf 3 = .ok (.istore_n 3, 1) := by decide +kernel
theorem dX5_strainOf_4 : decode cX5_strainOf 4 = .ok (.iload_n 3, 1) := by decide +kernel
theorem dX5_strainOf_5 : decode cX5_strainOf 5 = .ok (.aload_n 0, 1) := by decide +kernel
theorem dX5_strainOf_6 : decode cX5_strainOf 6 = .ok (.getfield 7, 3) := by decide +kernel
theorem dX5_strainOf_9 : decode cX5_strainOf 9 = .ok (.iload_n 1, 1) := by decide +kernel
theorem dX5_strainOf_10 : decode cX5_strainOf 10 = .ok (.iaload, 1) := by decide +kernel
theorem dX5_strainOf_11 : decode cX5_strainOf 11 = .ok (.if_icmp .ge 40, 3) := by decide +kernel
theorem dX5_strainOf_14 : decode cX5_strainOf 14 = .ok (.aload_n 0, 1) := by decide +kernel
theorem dX5_strainOf_15 : decode cX5_strainOf 15 = .ok (.getfield 13, 3) := by decide +kernel
theorem dX5_strainOf_18 : decode cX5_strainOf 18 = .ok (.bipush 9, 2) := by decide +kernel
theorem dX5_strainOf_20 : decode cX5_strainOf 20 = .ok (.iload_n 1, 1) := by decide +kernel
theorem dX5_strainOf_21 : decode cX5_strainOf 21 = .ok (.imul, 1) := by decide +kernel
theorem dX5_strainOf_22 : decode cX5_strainOf 22 = .ok (.iload_n 3, 1) := by decide +kernel
theorem dX5_strainOf_23 : decode cX5_strainOf 23 = .ok (.iadd, 1) := by decide +kernel
theorem dX5_strainOf_24 : decode cX5_strainOf 24 = .ok (.iaload, 1) := by decide +kernel
theorem dX5_strainOf_25 : decode cX5_strainOf 25 = .ok (.iload_n 2, 1) := by decide +kernel
theorem dX5_strainOf_26 : decode cX5_strainOf 26 = .ok (.if_icmp .le 17, 3) := by decide +kernel
theorem dX5_strainOf_29 : decode cX5_strainOf 29 = .ok (.aload_n 0, 1) := by decide +kernel
theorem dX5_strainOf_30 : decode cX5_strainOf 30 = .ok (.getfield 13, 3) := by decide +kernel
theorem dX5_strainOf_33 : decode cX5_strainOf 33 = .ok (.bipush 9, 2) := by decide +kernel
theorem dX5_strainOf_35 : decode cX5_strainOf 35 = .ok (.iload_n 1, 1) := by decide +kernel
theorem dX5_strainOf_36 : decode cX5_strainOf 36 = .ok (.imul, 1) := by decide +kernel
theorem dX5_strainOf_37 : decode cX5_strainOf 37 = .ok (.iload_n 3, 1) := by decide +kernel
theorem dX5_strainOf_38 : decode cX5_strainOf 38 = .ok (.iadd, 1) := by decide +kernel
theorem dX5_strainOf_39 : decode cX5_strainOf 39 = .ok (.iaload, 1) := by decide +kernel
theorem dX5_strainOf_40 : decode cX5_strainOf 40 = .ok (.goto 4, 3) := by decide +kernel
theorem dX5_strainOf_43 : decode cX5_strainOf 43 = .ok (.iload_n 2, 1) := by decide +kernel
theorem dX5_strainOf_44 : decode cX5_strainOf 44 = .ok (.istore_n 2, 1) := by decide +kernel
theorem dX5_strainOf_45 : decode cX5_strainOf 45 = .ok (.iinc 3 1, 3) := by decide +kernel
theorem dX5_strainOf_48 : decode cX5_strainOf 48 = .ok (.goto (-44), 3) := by decide +kernel
theorem dX5_strainOf_51 : decode cX5_strainOf 51 = .ok (.aload_n 0, 1) := by decide +kernel
theorem dX5_strainOf_52 : decode cX5_strainOf 52 = .ok (.getfield 13, 3) := by decide +kernel
theorem dX5_strainOf_55 : decode cX5_strainOf 55 = .ok (.bipush 9, 2) := by decide +kernel
theorem dX5_strainOf_57 : decode cX5_strainOf 57 = .ok (.iload_n 1, 1) := by decide +kernel
theorem dX5_strainOf_58 : decode cX5_strainOf 58 = .ok (.imul, 1) := by decide +kernel
theorem dX5_strainOf_59 : decode cX5_strainOf 59 = .ok (.iaload, 1) := by decide +kernel
theorem dX5_strainOf_60 : decode cX5_strainOf 60 = .ok (.istore_n 3, 1) := by decide +kernel
theorem dX5_strainOf_61 : decode cX5_strainOf 61 = .ok (.aload_n 0, 1) := by decide +kernel
theorem dX5_strainOf_62 : decode cX5_strainOf 62 = .ok (.getfield 13, 3) := by decide +kernel
theorem dX5_strainOf_65 : decode cX5_strainOf 65 = .ok (.bipush 9, 2) := by decide +kernel
theorem dX5_strainOf_67 : decode cX5_strainOf 67 = .ok (.iload_n 1, 1) := by decide +kernel
theorem dX5_strainOf_68 : decode cX5_strainOf 68 = .ok (.imul, 1) := by decide +kernel
theorem dX5_strainOf_69 : decode cX5_strainOf 69 = .ok (.aload_n 0, 1) := by decide +kernel
theorem dX5_strainOf_70 : decode cX5_strainOf 70 = .ok (.getfield 7, 3) := by decide +kernel
theorem dX5_strainOf_73 : decode cX5_strainOf 73 = .ok (.iload_n 1, 1) := by decide +kernel
theorem dX5_strainOf_74 : decode cX5_strainOf 74 = .ok (.iaload, 1) := by decide +kernel
theorem dX5_strainOf_75 : decode cX5_strainOf 75 = .ok (.iadd, 1) := by decide +kernel
theorem dX5_strainOf_76 : decode cX5_strainOf 76 = .ok (.iconst 1, 1) := by decide +kernel
theorem dX5_strainOf_77 : decode cX5_strainOf 77 = .ok (.isub, 1) := by decide +kernel
theorem dX5_strainOf_78 : decode cX5_strainOf 78 = .ok (.iaload, 1) := by decide +kernel
theorem dX5_strainOf_79 : decode cX5_strainOf 79 = .ok (.istore 4, 2) := by decide +kernel
theorem dX5_strainOf_81 : decode cX5_strainOf 81 = .ok (.iload_n 2, 1) := by decide +kernel
theorem dX5_strainOf_82 : decode cX5_strainOf 82 = .ok (.iload_n 3, 1) := by decide +kernel
theorem dX5_strainOf_83 : decode cX5_strainOf 83 = .ok (.iload 4, 2) := by decide +kernel
theorem dX5_strainOf_85 : decode cX5_strainOf 85 = .ok (.if_icmp .ge 7, 3) := by decide +kernel
theorem dX5_strainOf_88 : decode cX5_strainOf 88 = .ok (.iload_n 3, 1) := by decide +kernel
theorem dX5_strainOf_89 : decode cX5_strainOf 89 = .ok (.goto 5, 3) := by decide +kernel
theorem dX5_strainOf_92 : decode cX5_strainOf 92 = .ok (.iload 4, 2) := by decide +kernel
theorem dX5_strainOf_94 : decode cX5_strainOf 94 = .ok (.isub, 1) := by decide +kernel
theorem dX5_strainOf_95 : decode cX5_strainOf 95 = .ok (.ireturn, 1) := by decide +kernel
set_option maxRecDepth 20000 in
theorem ggX5_averageMoisture_X5_isBoard : GoodIn wsX5_averageMoisture wsX5_isBoard := goodIn_r _ [6, 7, 8, 9, 5, 10, 21, 22, 23, 24, 25, 26, 27, 28, 29, 30, 31, 32, 33, 34, 35, 36, 37, 38, 39, 40, 41, 42, 43, 44] (by decide +kernel) (by decide +kernel)
set_option maxRecDepth 20000 in
theorem gX5_averageMoisture_X5_isBoard : GoodIn wsX5_averageMoisture (wsV RX5 69 RX5 yX5_isBoard wsX5_isBoard) := goodIn_app (goodIn_of _ (by decide +kernel)) ggX5_averageMoisture_X5_isBoard
set_option maxRecDepth 20000 in
theorem ggX5_averageMoisture_X5_averageOf : GoodIn wsX5_averageMoisture wsX5_averageOf := goodIn_r _ [14, 15, 16, 17, 18, 5, 19, 20, 21, 22, 23, 24, 25, 26, 27, 28, 29, 30, 31, 32, 33, 34, 35, 36, 37, 38, 39, 40, 41, 42, 43, 44] (by decide +kernel) (by decide +kernel)
set_option maxRecDepth 20000 in
theorem gX5_averageMoisture_X5_averageOf : GoodIn wsX5_averageMoisture (wsV RX5 83 RX5 yX5_averageOf wsX5_averageOf) := goodIn_app (goodIn_of _ (by decide +kernel)) ggX5_averageMoisture_X5_averageOf
theorem dX5_averageMoisture_0 : decode cX5_averageMoisture 0 = .ok (.aload_n 0, 1) := by decide +kernel
theorem dX5_averageMoisture_1 : decode cX5_averageMoisture 1 = .ok (.iload_n 1, 1) := by decide +kernel
theorem dX5_averageMoisture_2 : decode cX5_averageMoisture 2 = .ok (.invokevirtual 69, 3) := by decide +kernel
theorem dX5_averageMoisture_5 : decode cX5_averageMoisture 5 = .ok (.ifCond .eq 11, 3) := by decide +kernel
theorem dX5_averageMoisture_8 : decode cX5_averageMoisture 8 = .ok (.aload_n 0, 1) := by decide +kernel
theorem dX5_averageMoisture_9 : decode cX5_averageMoisture 9 = .ok (.iload_n 1, 1) := by decide +kernel
theorem dX5_averageMoisture_10 : decode cX5_averageMoisture 10 = .ok (.invokevirtual 83, 3) := by decide +kernel
theorem dX5_averageMoisture_13 : decode cX5_averageMoisture 13 = .ok (.goto 5, 3) := by decide +kernel
theorem dX5_averageMoisture_16 : decode cX5_averageMoisture 16 = .ok (.ldc 73, 2) := by decide +kernel
theorem dX5_averageMoisture_18 : decode cX5_averageMoisture 18 = .ok (.ireturn, 1) := by decide +kernel
set_option maxRecDepth 20000 in
theorem ggX5_strain_X5_isBoard : GoodIn wsX5_strain wsX5_isBoard := goodIn_r _ [6, 7, 8, 9, 5, 10, 17, 18, 19, 20, 21, 22, 23, 24, 25, 26, 27, 28, 29, 30, 31, 32, 33, 34, 35, 36, 37, 38, 39, 40] (by decide +kernel) (by decide +kernel)
set_option maxRecDepth 20000 in
theorem gX5_strain_X5_isBoard : GoodIn wsX5_strain (wsV RX5 69 RX5 yX5_isBoard wsX5_isBoard) := goodIn_app (goodIn_of _ (by decide +kernel)) ggX5_strain_X5_isBoard
set_option maxRecDepth 20000 in
theorem ggX5_strain_X5_strainOf : GoodIn wsX5_strain wsX5_strainOf := goodIn_r _ [14, 15, 16, 17, 18, 19, 20, 21, 22, 23, 24, 25, 26, 27, 28, 29, 30, 31, 32, 33, 34, 35, 36, 37, 38, 39, 40] (by decide +kernel) (by decide +kernel)
set_option maxRecDepth 20000 in
theorem gX5_strain_X5_strainOf : GoodIn wsX5_strain (wsV RX5 86 RX5 yX5_strainOf wsX5_strainOf) := goodIn_app (goodIn_of _ (by decide +kernel)) ggX5_strain_X5_strainOf
theorem dX5_strain_0 : decode cX5_strain 0 = .ok (.aload_n 0, 1) := by decide +kernel
theorem dX5_strain_1 : decode cX5_strain 1 = .ok (.iload_n 1, 1) := by decide +kernel
theorem dX5_strain_2 : decode cX5_strain 2 = .ok (.invokevirtual 69, 3) := by decide +kernel
theorem dX5_strain_5 : decode cX5_strain 5 = .ok (.ifCond .eq 11, 3) := by decide +kernel
theorem dX5_strain_8 : decode cX5_strain 8 = .ok (.aload_n 0, 1) := by decide +kernel
theorem dX5_strain_9 : decode cX5_strain 9 = .ok (.iload_n 1, 1) := by decide +kernel
theorem dX5_strain_10 : decode cX5_strain 10 = .ok (.invokevirtual 86, 3) := by decide +kernel
theorem dX5_strain_13 : decode cX5_strain 13 = .ok (.goto 5, 3) := by decide +kernel
theorem dX5_strain_16 : decode cX5_strain 16 = .ok (.ldc 73, 2) := by decide +kernel
theorem dX5_strain_18 : decode cX5_strain 18 = .ok (.ireturn, 1) := by decide +kernel
set_option maxRecDepth 20000 in
theorem ggX5_checkHour_X5_isBoard : GoodIn wsX5_checkHour wsX5_isBoard := goodIn_r _ [7, 8, 9, 10, 6, 11, 12, 13, 14, 15, 16, 17, 18, 19, 20, 21, 22, 23, 24, 25, 26, 27, 28, 29, 30, 31, 32, 33, 34, 35] (by decide +kernel) (by decide +kernel)
set_option maxRecDepth 20000 in
theorem gX5_checkHour_X5_isBoard : GoodIn wsX5_checkHour (wsV RX5 69 RX5 yX5_isBoard wsX5_isBoard) := goodIn_app (goodIn_of _ (by decide +kernel)) ggX5_checkHour_X5_isBoard
theorem dX5_checkHour_0 : decode cX5_checkHour 0 = .ok (.aload_n 0, 1) := by decide +kernel
theorem dX5_checkHour_1 : decode cX5_checkHour 1 = .ok (.iload_n 1, 1) := by decide +kernel
theorem dX5_checkHour_2 : decode cX5_checkHour 2 = .ok (.invokevirtual 69, 3) := by decide +kernel

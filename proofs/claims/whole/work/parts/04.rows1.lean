set_option maxRecDepth 20000 in
theorem ggX0_init_J7_fill_53178 : GoodIn wsX0_init wsJ7_fill_53178 := goodIn_r _ [12] (by decide +kernel) (by decide +kernel)
set_option maxRecDepth 20000 in
theorem gX0_init_J7_fill_53178 : GoodIn wsX0_init (va_wsS RX0 23 yJ7_fill_53178 wsJ7_fill_53178) := goodIn_app (goodIn_of _ (by decide +kernel)) ggX0_init_J7_fill_53178
theorem dX0_init_0 : decode cX0_init 0 = .ok (.aload_n 0, 1) := by decide +kernel
theorem dX0_init_1 : decode cX0_init 1 = .ok (.invokespecial 3, 3) := by decide +kernel
theorem dX0_init_4 : decode cX0_init 4 = .ok (.aload_n 0, 1) := by decide +kernel
theorem dX0_init_5 : decode cX0_init 5 = .ok (.ldc 9, 2) := by decide +kernel
theorem dX0_init_7 : decode cX0_init 7 = .ok (.putfield 10, 3) := by decide +kernel
theorem dX0_init_10 : decode cX0_init 10 = .ok (.aload_n 0, 1) := by decide +kernel
theorem dX0_init_11 : decode cX0_init 11 = .ok (.ldc 9, 2) := by decide +kernel
theorem dX0_init_13 : decode cX0_init 13 = .ok (.putfield 16, 3) := by decide +kernel
theorem dX0_init_16 : decode cX0_init 16 = .ok (.aload_n 0, 1) := by decide +kernel
theorem dX0_init_17 : decode cX0_init 17 = .ok (.iload_n 1, 1) := by decide +kernel
theorem dX0_init_18 : decode cX0_init 18 = .ok (.newarray .int, 2) := by decide +kernel
theorem dX0_init_20 : decode cX0_init 20 = .ok (.putfield 19, 3) := by decide +kernel
theorem dX0_init_23 : decode cX0_init 23 = .ok (.aload_n 0, 1) := by decide +kernel
theorem dX0_init_24 : decode cX0_init 24 = .ok (.getfield 19, 3) := by decide +kernel
theorem dX0_init_27 : decode cX0_init 27 = .ok (.iload_n 2, 1) := by decide +kernel
theorem dX0_init_28 : decode cX0_init 28 = .ok (.invokestatic 23, 3) := by decide +kernel
theorem dX0_init_31 : decode cX0_init 31 = .ok (.return_, 1) := by decide +kernel
theorem dX0_water_0 : decode cX0_water 0 = .ok (.iconst 0, 1) := by decide +kernel
theorem dX0_water_1 : decode cX0_water 1 = .ok (.istore_n 1, 1) := by decide +kernel
theorem dX0_water_2 : decode cX0_water 2 = .ok (.iconst 0, 1) := by decide +kernel
theorem dX0_water_3 : decode cX0_water 3 = .ok (.istore_n 2, 1) := by decide +kernel
theorem dX0_water_4 : decode cX0_water 4 = .ok (.iload_n 2, 1) := by decide +kernel
theorem dX0_water_5 : decode cX0_water 5 = .ok (.aload_n 0, 1) := by decide +kernel
theorem dX0_water_6 : decode cX0_water 6 = .ok (.getfield 19, 3) := by decide +kernel
theorem dX0_water_9 : decode cX0_water 9 = .ok (.arraylength, 1) := by decide +kernel
theorem dX0_water_10 : decode cX0_water 10 = .ok (.if_icmp .ge 18, 3) := by decide +kernel
theorem dX0_water_13 : decode cX0_water 13 = .ok (.iload_n 1, 1) := by decide +kernel
theorem dX0_water_14 : decode cX0_water 14 = .ok (.aload_n 0, 1) := by decide +kernel
theorem dX0_water_15 : decode cX0_water 15 = .ok (.getfield 19, 3) := by decide +kernel
theorem dX0_water_18 : decode cX0_water 18 = .ok (.iload_n 2, 1) := by decide +kernel
theorem dX0_water_19 : decode cX0_water 19 = .ok (.iaload, 1) := by decide +kernel
theorem dX0_water_20 : decode cX0_water 20 = .ok (.iadd, 1) := by decide +kernel
theorem dX0_water_21 : decode cX0_water 21 = .ok (.istore_n 1, 1) := by decide +kernel
theorem dX0_water_22 : decode cX0_water 22 = .ok (.iinc 2 1, 3) := by decide +kernel
theorem dX0_water_25 : decode cX0_water 25 = .ok (.goto (-21), 3) := by decide +kernel
theorem dX0_water_28 : decode cX0_water 28 = .ok (.iload_n 1, 1) := by decide +kernel
theorem dX0_water_29 : decode cX0_water 29 = .ok (.ireturn, 1) := by decide +kernel
set_option maxRecDepth 20000 in
theorem ggX0_average_X0_water : GoodIn wsX0_average wsX0_water := goodIn_r _ [6, 1, 10, 11, 12] (by decide +kernel) (by decide +kernel)
set_option maxRecDepth 20000 in
theorem gX0_average_X0_water : GoodIn wsX0_average (wsV RX0 29 RX0 yX0_water wsX0_water) := goodIn_app (goodIn_of _ (by decide +kernel)) ggX0_average_X0_water
set_option maxRecDepth 20000 in
theorem ggX0_average_X4_quotient : GoodIn wsX0_average wsX4_quotient := goodIn_r _ [9] (by decide +kernel) (by decide +kernel)
set_option maxRecDepth 20000 in
theorem gX0_average_X4_quotient_n33 : GoodIn wsX0_average (wsX4_quotient) := ggX0_average_X4_quotient
theorem dX0_average_0 : decode cX0_average 0 = .ok (.aload_n 0, 1) := by decide +kernel
theorem dX0_average_1 : decode cX0_average 1 = .ok (.invokevirtual 29, 3) := by decide +kernel
theorem dX0_average_4 : decode cX0_average 4 = .ok (.aload_n 0, 1) := by decide +kernel
theorem dX0_average_5 : decode cX0_average 5 = .ok (.getfield 19, 3) := by decide +kernel
theorem dX0_average_8 : decode cX0_average 8 = .ok (.arraylength, 1) := by decide +kernel
theorem dX0_average_9 : decode cX0_average 9 = .ok (.invokestatic 33, 3) := by decide +kernel
theorem dX0_average_12 : decode cX0_average 12 = .ok (.ireturn, 1) := by decide +kernel
theorem dX0_gradient_0 : decode cX0_gradient 0 = .ok (.iconst 0, 1) := by decide +kernel
theorem dX0_gradient_1 : decode cX0_gradient 1 = .ok (.istore_n 1, 1) := by decide +kernel
theorem dX0_gradient_2 : decode cX0_gradient 2 = .ok (.iconst 0, 1) := by decide +kernel
theorem dX0_gradient_3 : decode cX0_gradient 3 = .ok (.istore_n 2, 1) := by decide +kernel
theorem dX0_gradient_4 : decode cX0_gradient 4 = .ok (.iload_n 2, 1) := by decide +kernel
theorem dX0_gradient_5 : decode cX0_gradient 5 = .ok (.aload_n 0, 1) := by decide +kernel
theorem dX0_gradient_6 : decode cX0_gradient 6 = .ok (.getfield 19, 3) := by decide +kernel
theorem dX0_gradient_9 : decode cX0_gradient 9 = .ok (.arraylength, 1) := by decide +kernel
theorem dX0_gradient_10 : decode cX0_gradient 10 = .ok (.if_icmp .ge 20, 3) := by decide +kernel
theorem dX0_gradient_13 : decode cX0_gradient 13 = .ok (.iload_n 1, 1) := by decide +kernel
theorem dX0_gradient_14 : decode cX0_gradient 14 = .ok (.aload_n 0, 1) := by decide +kernel
theorem dX0_gradient_15 : decode cX0_gradient 15 = .ok (.getfield 19, 3) := by decide +kernel
theorem dX0_gradient_18 : decode cX0_gradient 18 = .ok (.iload_n 2, 1) := by decide +kernel
theorem dX0_gradient_19 : decode cX0_gradient 19 = .ok (.iaload, 1) := by decide +kernel
theorem dX0_gradient_20 : decode cX0_gradient 20 = .ok (.invokestatic 37, 3) := by decide +kernel
theorem dX0_gradient_23 : decode cX0_gradient 23 = .ok (.istore_n 1, 1) := by decide +kernel
theorem dX0_gradient_24 : decode cX0_gradient 24 = .ok (.iinc 2 1, 3) := by decide +kernel
theorem dX0_gradient_27 : decode cX0_gradient 27 = .ok (.goto (-23), 3) := by decide +kernel
theorem dX0_gradient_30 : decode cX0_gradient 30 = .ok (.iload_n 1, 1) := by decide +kernel
theorem dX0_gradient_31 : decode cX0_gradient 31 = .ok (.aload_n 0, 1) := by decide +kernel
theorem dX0_gradient_32 : decode cX0_gradient 32 = .ok (.getfield 19, 3) := by decide +kernel
theorem dX0_gradient_35 : decode cX0_gradient 35 = .ok (.iconst 0, 1) := by decide +kernel
theorem dX0_gradient_36 : decode cX0_gradient 36 = .ok (.iaload, 1) := by decide +kernel
theorem dX0_gradient_37 : decode cX0_gradient 37 = .ok (.aload_n 0, 1) := by decide +kernel
theorem dX0_gradient_38 : decode cX0_gradient 38 = .ok (.getfield 19, 3) := by decide +kernel
theorem dX0_gradient_41 : decode cX0_gradient 41 = .ok (.aload_n 0, 1) := by decide +kernel
theorem dX0_gradient_42 : decode cX0_gradient 42 = .ok (.getfield 19, 3) := by decide +kernel
theorem dX0_gradient_45 : decode cX0_gradient 45 = .ok (.arraylength, 1) := by decide +kernel
theorem dX0_gradient_46 : decode cX0_gradient 46 = .ok (.iconst 1, 1) := by decide +kernel
theorem dX0_gradient_47 : decode cX0_gradient 47 = .ok (.isub, 1) := by decide +kernel
theorem dX0_gradient_48 : decode cX0_gradient 48 = .ok (.iaload, 1) := by decide +kernel
theorem dX0_gradient_49 : decode cX0_gradient 49 = .ok (.invokestatic 42, 3) := by decide +kernel
theorem dX0_gradient_52 : decode cX0_gradient 52 = .ok (.isub, 1) := by decide +kernel
theorem dX0_gradient_53 : decode cX0_gradient 53 = .ok (.ireturn, 1) := by decide +kernel
set_option maxRecDepth 20000 in
theorem ggX0_passDryingHour_X0_applyFlows : GoodIn wsX0_passDryingHour wsX0_applyFlows := goodIn_r _ [9, 2, 10, 11, 12] (by decide +kernel) (by decide +kernel)
set_option maxRecDepth 20000 in
theorem gX0_passDryingHour_X0_applyFlows : GoodIn wsX0_passDryingHour (wsV RX0 53 RX0 yX0_applyFlows wsX0_applyFlows) := goodIn_app (goodIn_of _ (by decide +kernel)) ggX0_passDryingHour_X0_applyFlows
theorem dX0_passDryingHour_0 : decode cX0_passDryingHour 0 = .ok (.aload_n 0, 1) := by decide +kernel
theorem dX0_passDryingHour_1 : decode cX0_passDryingHour 1 = .ok (.iload_n 1, 1) := by decide +kernel
theorem dX0_passDryingHour_2 : decode cX0_passDryingHour 2 = .ok (.putfield 16, 3) := by decide +kernel
theorem dX0_passDryingHour_5 : decode cX0_passDryingHour 5 = .ok (.aload_n 0, 1) := by decide +kernel
theorem dX0_passDryingHour_6 : decode cX0_passDryingHour 6 = .ok (.getfield 19, 3) := by decide +kernel
theorem dX0_passDryingHour_9 : decode cX0_passDryingHour 9 = .ok (.iconst 0, 1) := by decide +kernel
theorem dX0_passDryingHour_10 : decode cX0_passDryingHour 10 = .ok (.iaload, 1) := by decide +kernel
theorem dX0_passDryingHour_11 : decode cX0_passDryingHour 11 = .ok (.iload_n 1, 1) := by decide +kernel
theorem dX0_passDryingHour_12 : decode cX0_passDryingHour 12 = .ok (.isub, 1) := by decide +kernel
theorem dX0_passDryingHour_13 : decode cX0_passDryingHour 13 = .ok (.aload_n 2, 1) := by decide +kernel
theorem dX0_passDryingHour_14 : decode cX0_passDryingHour 14 = .ok (.getfield 45, 3) := by decide +kernel
theorem dX0_passDryingHour_17 : decode cX0_passDryingHour 17 = .ok (.imul, 1) := by decide +kernel
theorem dX0_passDryingHour_18 : decode cX0_passDryingHour 18 = .ok (.sipush 1000, 3) := by decide +kernel
theorem dX0_passDryingHour_21 : decode cX0_passDryingHour 21 = .ok (.idiv, 1) := by decide +kernel
theorem dX0_passDryingHour_22 : decode cX0_passDryingHour 22 = .ok (.istore_n 3, 1) := by decide +kernel
theorem dX0_passDryingHour_23 : decode cX0_passDryingHour 23 = .ok (.aload_n 0, 1) := by decide +kernel
theorem dX0_passDryingHour_24 : decode cX0_passDryingHour 24 = .ok (.getfield 19, 3) := by decide +kernel
theorem dX0_passDryingHour_27 : decode cX0_passDryingHour 27 = .ok (.aload_n 0, 1) := by decide +kernel
theorem dX0_passDryingHour_28 : decode cX0_passDryingHour 28 = .ok (.getfield 19, 3) := by decide +kernel
theorem dX0_passDryingHour_31 : decode cX0_passDryingHour 31 = .ok (.arraylength, 1) := by decide +kernel
theorem dX0_passDryingHour_32 : decode cX0_passDryingHour 32 = .ok (.iconst 1, 1) := by decide +kernel
theorem dX0_passDryingHour_33 : decode cX0_passDryingHour 33 = .ok (.isub, 1) := by decide +kernel
theorem dX0_passDryingHour_34 : decode cX0_passDryingHour 34 = .ok (.iaload, 1) := by decide +kernel
theorem dX0_passDryingHour_35 : decode cX0_passDryingHour 35 = .ok (.iload_n 1, 1) := by decide +kernel
theorem dX0_passDryingHour_36 : decode cX0_passDryingHour 36 = .ok (.isub, 1) := by decide +kernel
theorem dX0_passDryingHour_37 : decode cX0_passDryingHour 37 = .ok (.aload_n 2, 1) := by decide +kernel
theorem dX0_passDryingHour_38 : decode cX0_passDryingHour 38 = .ok (.getfield 45, 3) := by decide +kernel
theorem dX0_passDryingHour_41 : decode cX0_passDryingHour 41 = .ok (.imul, 1) := by decide +kernel
theorem dX0_passDryingHour_42 : decode cX0_passDryingHour 42 = .ok (.sipush 1000, 3) := by decide +kernel
theorem dX0_passDryingHour_45 : decode cX0_passDryingHour 45 = .ok (.idiv, 1) := by decide +kernel
theorem dX0_passDryingHour_46 : decode cX0_passDryingHour 46 = .ok (.istore 4, 2) := by decide +kernel
theorem dX0_passDryingHour_48 : decode cX0_passDryingHour 48 = .ok (.aload_n 0, 1) := by decide +kernel
theorem dX0_passDryingHour_49 : decode cX0_passDryingHour 49 = .ok (.iload_n 3, 1) := by decide +kernel
theorem dX0_passDryingHour_50 : decode cX0_passDryingHour 50 = .ok (.iload 4, 2) := by decide +kernel
theorem dX0_passDryingHour_52 : decode cX0_passDryingHour 52 = .ok (.aload_n 2, 1) := by decide +kernel
theorem dX0_passDryingHour_53 : decode cX0_passDryingHour 53 = .ok (.getfield 50, 3) := by decide +kernel
theorem dX0_passDryingHour_56 : decode cX0_passDryingHour 56 = .ok (.invokevirtual 53, 3) := by decide +kernel
theorem dX0_passDryingHour_59 : decode cX0_passDryingHour 59 = .ok (.iload_n 3, 1) := by decide +kernel
theorem dX0_passDryingHour_60 : decode cX0_passDryingHour 60 = .ok (.iload 4, 2) := by decide +kernel
theorem dX0_passDryingHour_62 : decode cX0_passDryingHour 62 = .ok (.iadd, 1) := by decide +kernel
theorem dX0_passDryingHour_63 : decode cX0_passDryingHour 63 = .ok (.ireturn, 1) := by decide +kernel
set_option maxRecDepth 20000 in
theorem ggX0_passRestHour_X0_applyFlows : GoodIn wsX0_passRestHour wsX0_applyFlows := goodIn_r _ [5, 6, 7, 8, 9] (by decide +kernel) (by decide +kernel)
set_option maxRecDepth 20000 in
theorem gX0_passRestHour_X0_applyFlows : GoodIn wsX0_passRestHour (wsV RX0 53 RX0 yX0_applyFlows wsX0_applyFlows) := goodIn_app (goodIn_of _ (by decide +kernel)) ggX0_passRestHour_X0_applyFlows
theorem dX0_passRestHour_0 : decode cX0_passRestHour 0 = .ok (.aload_n 0, 1) := by decide +kernel
theorem dX0_passRestHour_1 : decode cX0_passRestHour 1 = .ok (.iconst 0, 1) := by decide +kernel
theorem dX0_passRestHour_2 : decode cX0_passRestHour 2 = .ok (.iconst 0, 1) := by decide +kernel
theorem dX0_passRestHour_3 : decode cX0_passRestHour 3 = .ok (.iload_n 1, 1) := by decide +kernel
theorem dX0_passRestHour_4 : decode cX0_passRestHour 4 = .ok (.invokevirtual 53, 3) := by decide +kernel
theorem dX0_passRestHour_7 : decode cX0_passRestHour 7 = .ok (.return_, 1) := by decide +kernel
theorem dX0_applyFlows_0 : decode cX0_applyFlows 0 = .ok (.iload_n 1, 1) := by decide +kernel
theorem dX0_applyFlows_1 : decode cX0_applyFlows 1 = .ok (.ineg, 1) := by decide +kernel
theorem dX0_applyFlows_2 : decode cX0_applyFlows 2 = .ok (.istore 4, 2) := by decide +kernel
theorem dX0_applyFlows_4 : decode cX0_applyFlows 4 = .ok (.iconst 0, 1) := by decide +kernel
theorem dX0_applyFlows_5 : decode cX0_applyFlows 5 = .ok (.istore 5, 2) := by decide +kernel
theorem dX0_applyFlows_7 : decode cX0_applyFlows 7 = .ok (.iload 5, 2) := by decide +kernel
theorem dX0_applyFlows_9 : decode cX0_applyFlows 9 = .ok (.aload_n 0, 1) := by decide +kernel
theorem dX0_applyFlows_10 : decode cX0_applyFlows 10 = .ok (.getfield 19, 3) := by decide +kernel
theorem dX0_applyFlows_13 : decode cX0_applyFlows 13 = .ok (.arraylength, 1) := by decide +kernel
theorem dX0_applyFlows_14 : decode cX0_applyFlows 14 = .ok (.if_icmp .ge 69, 3) := by decide +kernel
theorem dX0_applyFlows_17 : decode cX0_applyFlows 17 = .ok (.iload 5, 2) := by decide +kernel
theorem dX0_applyFlows_19 : decode cX0_applyFlows 19 = .ok (.iconst 1, 1) := by decide +kernel
theorem dX0_applyFlows_20 : decode cX0_applyFlows 20 = .ok (.iadd, 1) := by decide +kernel
theorem dX0_applyFlows_21 : decode cX0_applyFlows 21 = .ok (.aload_n 0, 1) := by decide +kernel
theorem dX0_applyFlows_22 : decode cX0_applyFlows 22 = .ok (.getfield 19, 3) := by decide +kernel
theorem dX0_applyFlows_25 : decode cX0_applyFlows 25 = .ok (.arraylength, 1) := by decide +kernel
theorem dX0_applyFlows_26 : decode cX0_applyFlows 26 = .ok (.if_icmp .ge 29, 3) := by decide +kernel
theorem dX0_applyFlows_29 : decode cX0_applyFlows 29 = .ok (.aload_n 0, 1) := by decide +kernel
theorem dX0_applyFlows_30 : decode cX0_applyFlows 30 = .ok (.getfield 19, 3) := by decide +kernel
theorem dX0_applyFlows_33 : decode cX0_applyFlows 33 = .ok (.iload 5, 2) := by decide +kernel
theorem dX0_applyFlows_35 : decode cX0_applyFlows 35 = .ok (.iaload, 1) := by decide +kernel
theorem dX0_applyFlows_36 : decode cX0_applyFlows 36 = .ok (.aload_n 0, 1) := by decide +kernel
theorem dX0_applyFlows_37 : decode cX0_applyFlows 37 = .ok (.getfield 19, 3) := by decide +kernel
theorem dX0_applyFlows_40 : decode cX0_applyFlows 40 = .ok (.iload 5, 2) := by decide +kernel
theorem dX0_applyFlows_42 : decode cX0_applyFlows 42 = .ok (.iconst 1, 1) := by decide +kernel
theorem dX0_applyFlows_43 : decode cX0_applyFlows 43 = .ok (.iadd, 1) := by decide +kernel
theorem dX0_applyFlows_44 : decode cX0_applyFlows 44 = .ok (.iaload, 1) := by decide +kernel
theorem dX0_applyFlows_45 : decode cX0_applyFlows 45 = .ok (.isub, 1) := by decide +kernel
theorem dX0_applyFlows_46 : decode cX0_applyFlows 46 = .ok (.iload_n 3, 1) := by decide +kernel
theorem dX0_applyFlows_47 : decode cX0_applyFlows 47 = .ok (.imul, 1) := by decide +kernel
theorem dX0_applyFlows_48 : decode cX0_applyFlows 48 = .ok (.sipush 1000, 3) := by decide +kernel
theorem dX0_applyFlows_51 : decode cX0_applyFlows 51 = .ok (.idiv, 1) := by decide +kernel
theorem dX0_applyFlows_52 : decode cX0_applyFlows 52 = .ok (.goto 4, 3) := by decide +kernel
theorem dX0_applyFlows_55 : decode cX0_applyFlows 55 = .ok (.iload_n 2, 1) := by decide +kernel
theorem dX0_applyFlows_56 : decode cX0_applyFlows 56 = .ok (.istore 6, 2) := by decide +kernel
theorem dX0_applyFlows_58 : decode cX0_applyFlows 58 = .ok (.aload_n 0, 1) := by decide +kernel
theorem dX0_applyFlows_59 : decode cX0_applyFlows 59 = .ok (.getfield 19, 3) := by decide +kernel
theorem dX0_applyFlows_62 : decode cX0_applyFlows 62 = .ok (.iload 5, 2) := by decide +kernel
theorem dX0_applyFlows_64 : decode cX0_applyFlows 64 = .ok (.dup2, 1) := by decide +kernel
theorem dX0_applyFlows_65 : decode cX0_applyFlows 65 = .ok (.iaload, 1) := by decide +kernel
theorem dX0_applyFlows_66 : decode cX0_applyFlows 66 = .ok (.iload 4, 2) := by decide +kernel
theorem dX0_applyFlows_68 : decode cX0_applyFlows 68 = .ok (.iload 6, 2) := by decide +kernel
theorem dX0_applyFlows_70 : decode cX0_applyFlows 70 = .ok (.isub, 1) := by decide +kernel
theorem dX0_applyFlows_71 : decode cX0_applyFlows 71 = .ok (.iadd, 1) := by decide +kernel
theorem dX0_applyFlows_72 : decode cX0_applyFlows 72 = .ok (.iastore, 1) := by decide +kernel
theorem dX0_applyFlows_73 : decode cX0_applyFlows 73 = .ok (.iload 6, 2) := by decide +kernel
theorem dX0_applyFlows_75 : decode cX0_applyFlows 75 = .ok (.istore 4, 2) := by decide +kernel
theorem dX0_applyFlows_77 : decode cX0_applyFlows 77 = .ok (.iinc 5 1, 3) := by decide +kernel
theorem dX0_applyFlows_80 : decode cX0_applyFlows 80 = .ok (.goto (-73), 3) := by decide +kernel
theorem dX0_applyFlows_83 : decode cX0_applyFlows 83 = .ok (.return_, 1) := by decide +kernel
theorem dX0_copyMoistureFrom_0 : decode cX0_copyMoistureFrom 0 = .ok (.aload_n 0, 1) := by decide +kernel
theorem dX0_copyMoistureFrom_1 : decode cX0_copyMoistureFrom 1 = .ok (.getfield 19, 3) := by decide +kernel
theorem dX0_copyMoistureFrom_4 : decode cX0_copyMoistureFrom 4 = .ok (.arraylength, 1) := by decide +kernel
theorem dX0_copyMoistureFrom_5 : decode cX0_copyMoistureFrom 5 = .ok (.aload_n 1, 1) := by decide +kernel
theorem dX0_copyMoistureFrom_6 : decode cX0_copyMoistureFrom 6 = .ok (.getfield 19, 3) := by decide +kernel
theorem dX0_copyMoistureFrom_9 : decode cX0_copyMoistureFrom 9 = .ok (.arraylength, 1) := by decide +kernel
theorem dX0_copyMoistureFrom_10 : decode cX0_copyMoistureFrom 10 = .ok (.invokestatic 42, 3) := by decide +kernel
theorem dX0_copyMoistureFrom_13 : decode cX0_copyMoistureFrom 13 = .ok (.istore_n 2, 1) := by decide +kernel
theorem dX0_copyMoistureFrom_14 : decode cX0_copyMoistureFrom 14 = .ok (.aload_n 1, 1) := by decide +kernel
theorem dX0_copyMoistureFrom_15 : decode cX0_copyMoistureFrom 15 = .ok (.getfield 19, 3) := by decide +kernel
theorem dX0_copyMoistureFrom_18 : decode cX0_copyMoistureFrom 18 = .ok (.iconst 0, 1) := by decide +kernel
theorem dX0_copyMoistureFrom_19 : decode cX0_copyMoistureFrom 19 = .ok (.aload_n 0, 1) := by decide +kernel
theorem dX0_copyMoistureFrom_20 : decode cX0_copyMoistureFrom 20 = .ok (.getfield 19, 3) := by decide +kernel
theorem dX0_copyMoistureFrom_23 : decode cX0_copyMoistureFrom 23 = .ok (.iconst 0, 1) := by decide +kernel
theorem dX0_copyMoistureFrom_24 : decode cX0_copyMoistureFrom 24 = .ok (.iload_n 2, 1) := by decide +kernel
theorem dX0_copyMoistureFrom_25 : decode cX0_copyMoistureFrom 25 = .ok (.invokestatic 57, 3) := by decide +kernel
theorem dX0_copyMoistureFrom_28 : decode cX0_copyMoistureFrom 28 = .ok (.return_, 1) := by decide +kernel
set_option maxRecDepth 20000 in
theorem ggX1_init_Jx4a65c_init_da8c8 : GoodIn wsX1_init wsJx4a65c_init_da8c8 := goodIn_r _ [12, 13, 14, 15, 16, 17, 18, 19, 20, 21, 22, 23, 24, 2, 3, 28, 29, 30] (by decide +kernel) (by decide +kernel)
set_option maxRecDepth 20000 in
theorem gX1_init_Jx4a65c_init_da8c8 : GoodIn wsX1_init (wsJx4a65c_init_da8c8) := ggX1_init_Jx4a65c_init_da8c8
theorem dX1_init_0 : decode cX1_init 0 = .ok (.aload_n 0, 1) := by decide +kernel
theorem dX1_init_1 : decode cX1_init 1 = .ok (.invokespecial 3, 3) := by decide +kernel
theorem dX1_init_4 : decode cX1_init 4 = .ok (.aload_n 0, 1) := by decide +kernel
theorem dX1_init_5 : decode cX1_init 5 = .ok (.iconst 0, 1) := by decide +kernel
theorem dX1_init_6 : decode cX1_init 6 = .ok (.putfield 9, 3) := by decide +kernel
theorem dX1_init_9 : decode cX1_init 9 = .ok (.aload_n 0, 1) := by decide +kernel
theorem dX1_init_10 : decode cX1_init 10 = .ok (.iconst 0, 1) := by decide +kernel
theorem dX1_init_11 : decode cX1_init 11 = .ok (.putfield 15, 3) := by decide +kernel
theorem dX1_init_14 : decode cX1_init 14 = .ok (.aload_n 0, 1) := by decide +kernel
theorem dX1_init_15 : decode cX1_init 15 = .ok (.new 19, 3) := by decide +kernel
theorem dX1_init_18 : decode cX1_init 18 = .ok (.dup, 1) := by decide +kernel
theorem dX1_init_19 : decode cX1_init 19 = .ok (.invokespecial 21, 3) := by decide +kernel
theorem dX1_init_22 : decode cX1_init 22 = .ok (.putfield 22, 3) := by decide +kernel
theorem dX1_init_25 : decode cX1_init 25 = .ok (.return_, 1) := by decide +kernel
set_option maxRecDepth 20000 in
theorem ggX1_size_Jx4a65c_size_8abf5 : GoodIn wsX1_size wsJx4a65c_size_8abf5 := goodIn_r _ [6, 7, 11, 12, 13] (by decide +kernel) (by decide +kernel)
set_option maxRecDepth 20000 in
theorem gX1_size_Jx4a65c_size_8abf5 : GoodIn wsX1_size (wsV RX1 26 RJx4a65c yJx4a65c_size_8abf5 wsJx4a65c_size_8abf5) := goodIn_app (goodIn_of _ (by decide +kernel)) ggX1_size_Jx4a65c_size_8abf5
theorem dX1_size_0 : decode cX1_size 0 = .ok (.aload_n 0, 1) := by decide +kernel
theorem dX1_size_1 : decode cX1_size 1 = .ok (.getfield 22, 3) := by decide +kernel
theorem dX1_size_4 : decode cX1_size 4 = .ok (.invokevirtual 26, 3) := by decide +kernel
theorem dX1_size_7 : decode cX1_size 7 = .ok (.ireturn, 1) := by decide +kernel
set_option maxRecDepth 20000 in
theorem ggX1_has_Jx4a65c_size_8abf5 : GoodIn wsX1_has wsJx4a65c_size_8abf5 := goodIn_r _ [6, 7, 11, 12, 13] (by decide +kernel) (by decide +kernel)
set_option maxRecDepth 20000 in
theorem gX1_has_Jx4a65c_size_8abf5 : GoodIn wsX1_has (wsV RX1 26 RJx4a65c yJx4a65c_size_8abf5 wsJx4a65c_size_8abf5) := goodIn_app (goodIn_of _ (by decide +kernel)) ggX1_has_Jx4a65c_size_8abf5
theorem dX1_has_0 : decode cX1_has 0 = .ok (.iload_n 1, 1) := by decide +kernel
theorem dX1_has_1 : decode cX1_has 1 = .ok (.ifCond .lt 18, 3) := by decide +kernel
theorem dX1_has_4 : decode cX1_has 4 = .ok (.iload_n 1, 1) := by decide +kernel
theorem dX1_has_5 : decode cX1_has 5 = .ok (.aload_n 0, 1) := by decide +kernel
theorem dX1_has_6 : decode cX1_has 6 = .ok (.getfield 22, 3) := by decide +kernel
theorem dX1_has_9 : decode cX1_has 9 = .ok (.invokevirtual 26, 3) := by decide +kernel
theorem dX1_has_12 : decode cX1_has 12 = .ok (.if_icmp .ge 7, 3) := by decide +kernel
theorem dX1_has_15 : decode cX1_has 15 = .ok (.iconst 1, 1) := by decide +kernel
theorem dX1_has_16 : decode cX1_has 16 = .ok (.goto 4, 3) := by decide +kernel
theorem dX1_has_19 : decode cX1_has 19 = .ok (.iconst 0, 1) := by decide +kernel
theorem dX1_has_20 : decode cX1_has 20 = .ok (.ireturn, 1) := by decide +kernel
set_option maxRecDepth 20000 in
theorem ggX1_boardAt_Jx4a65c_get_915e3 : GoodIn wsX1_boardAt wsJx4a65c_get_915e3 := goodIn_r _ [7, 8, 9, 10, 11, 12, 13, 14, 15, 16, 17, 18, 19, 6, 20, 21, 25, 26, 27] (by decide +kernel) (by decide +kernel)
set_option maxRecDepth 20000 in
theorem gX1_boardAt_Jx4a65c_get_915e3 : GoodIn wsX1_boardAt (wsV RX1 30 RJx4a65c yJx4a65c_get_915e3 wsJx4a65c_get_915e3) := goodIn_app (goodIn_of _ (by decide +kernel)) ggX1_boardAt_Jx4a65c_get_915e3
theorem dX1_boardAt_0 : decode cX1_boardAt 0 = .ok (.aload_n 0, 1) := by decide +kernel
theorem dX1_boardAt_1 : decode cX1_boardAt 1 = .ok (.getfield 22, 3) := by decide +kernel
theorem dX1_boardAt_4 : decode cX1_boardAt 4 = .ok (.iload_n 1, 1) := by decide +kernel
theorem dX1_boardAt_5 : decode cX1_boardAt 5 = .ok (.invokevirtual 30, 3) := by decide +kernel
theorem dX1_boardAt_8 : decode cX1_boardAt 8 = .ok (.checkcast 34, 3) := by decide +kernel
theorem dX1_boardAt_11 : decode cX1_boardAt 11 = .ok (.areturn, 1) := by decide +kernel
set_option maxRecDepth 20000 in
theorem ggX1_put_Jx4a65c_add_9ea2d : GoodIn wsX1_put wsJx4a65c_add_9ea2d := goodIn_r _ [6, 7, 8, 9, 10, 11, 12, 13, 5, 14, 15, 16, 17, 18, 19, 20, 21, 22, 23, 24, 25, 26, 27, 28, 29, 30, 31, 32, 33, 34, 35, 36, 37, 38, 39, 40, 41, 42, 43, 44, 45, 46, 47, 48, 49, 50, 51, 52, 53, 54, 55, 56, 57, 61, 62, 63] (by decide +kernel) (by decide +kernel)
set_option maxRecDepth 20000 in
theorem gX1_put_Jx4a65c_add_9ea2d : GoodIn wsX1_put (wsV RX1 36 RJx4a65c yJx4a65c_add_9ea2d wsJx4a65c_add_9ea2d) := goodIn_app (goodIn_of _ (by decide +kernel)) ggX1_put_Jx4a65c_add_9ea2d
theorem dX1_put_0 : decode cX1_put 0 = .ok (.aload_n 0, 1) := by decide +kernel
theorem dX1_put_1 : decode cX1_put 1 = .ok (.getfield 22, 3) := by decide +kernel
theorem dX1_put_4 : decode cX1_put 4 = .ok (.aload_n 1, 1) := by decide +kernel
theorem dX1_put_5 : decode cX1_put 5 = .ok (.invokevirtual 36, 3) := by decide +kernel
theorem dX1_put_8 : decode cX1_put 8 = .ok (.pop, 1) := by decide +kernel
theorem dX1_put_9 : decode cX1_put 9 = .ok (.return_, 1) := by decide +kernel
set_option maxRecDepth 20000 in
theorem ggX1_copyFrom_Jx4a65c_size_8abf5 : GoodIn wsX1_copyFrom wsJx4a65c_size_8abf5 := goodIn_r _ [9, 10, 45, 46, 47] (by decide +kernel) (by decide +kernel)
set_option maxRecDepth 20000 in
theorem gX1_copyFrom_Jx4a65c_size_8abf5 : GoodIn wsX1_copyFrom (wsV RX1 26 RJx4a65c yJx4a65c_size_8abf5 wsJx4a65c_size_8abf5) := goodIn_app (goodIn_of _ (by decide +kernel)) ggX1_copyFrom_Jx4a65c_size_8abf5
set_option maxRecDepth 20000 in
theorem ggX1_copyFrom_Jx4a65c_get_915e3 : GoodIn wsX1_copyFrom wsJx4a65c_get_915e3 := goodIn_r _ [14, 10, 15, 16, 17, 18, 19, 20, 21, 22, 23, 24, 25, 8, 26, 27, 45, 46, 47] (by decide +kernel) (by decide +kernel)
set_option maxRecDepth 20000 in
theorem gX1_copyFrom_Jx4a65c_get_915e3 : GoodIn wsX1_copyFrom (wsV RX1 30 RJx4a65c yJx4a65c_get_915e3 wsJx4a65c_get_915e3) := goodIn_app (goodIn_of _ (by decide +kernel)) ggX1_copyFrom_Jx4a65c_get_915e3
set_option maxRecDepth 20000 in
theorem ggX1_copyFrom_X0_copyMoistureFrom : GoodIn wsX1_copyFrom wsX0_copyMoistureFrom := goodIn_r _ [32, 33, 34, 35, 36, 37, 38, 39, 40, 41, 48, 49, 50] (by decide +kernel) (by decide +kernel)
set_option maxRecDepth 20000 in
theorem gX1_copyFrom_X0_copyMoistureFrom : GoodIn wsX1_copyFrom (wsV RX1 40 RX0 yX0_copyMoistureFrom wsX0_copyMoistureFrom) := goodIn_app (goodIn_of _ (by decide +kernel)) ggX1_copyFrom_X0_copyMoistureFrom
theorem dX1_copyFrom_0 : decode cX1_copyFrom 0 = .ok (.iconst 0, 1) := by decide +kernel
theorem dX1_copyFrom_1 : decode cX1_copyFrom 1 = .ok (.istore_n 2, 1) := by decide +kernel
theorem dX1_copyFrom_2 : decode cX1_copyFrom 2 = .ok (.iload_n 2, 1) := by decide +kernel
theorem dX1_copyFrom_3 : decode cX1_copyFrom 3 = .ok (.aload_n 0, 1) := by decide +kernel
theorem dX1_copyFrom_4 : decode cX1_copyFrom 4 = .ok (.getfield 22, 3) := by decide +kernel
theorem dX1_copyFrom_7 : decode cX1_copyFrom 7 = .ok (.invokevirtual 26, 3) := by decide +kernel
theorem dX1_copyFrom_10 : decode cX1_copyFrom 10 = .ok (.if_icmp .ge 45, 3) := by decide +kernel
theorem dX1_copyFrom_13 : decode cX1_copyFrom 13 = .ok (.iload_n 2, 1) := by decide +kernel
theorem dX1_copyFrom_14 : decode cX1_copyFrom 14 = .ok (.aload_n 1, 1) := by decide +kernel
theorem dX1_copyFrom_15 : decode cX1_copyFrom 15 = .ok (.getfield 22, 3) := by decide +kernel
theorem dX1_copyFrom_18 : decode cX1_copyFrom 18 = .ok (.invokevirtual 26, 3) := by decide +kernel
theorem dX1_copyFrom_21 : decode cX1_copyFrom 21 = .ok (.if_icmp .ge 34, 3) := by decide +kernel
theorem dX1_copyFrom_24 : decode cX1_copyFrom 24 = .ok (.aload_n 0, 1) := by decide +kernel
theorem dX1_copyFrom_25 : decode cX1_copyFrom 25 = .ok (.getfield 22, 3) := by decide +kernel
theorem dX1_copyFrom_28 : decode cX1_copyFrom 28 = .ok (.iload_n 2, 1) := by decide +kernel
theorem dX1_copyFrom_29 : decode cX1_copyFrom 29 = .ok (.invokevirtual 30, 3) := by decide +kernel
theorem dX1_copyFrom_32 : decode cX1_copyFrom 32 = .ok (.checkcast 34, 3) := by decide +kernel
theorem dX1_copyFrom_35 : decode cX1_copyFrom 35 = .ok (.aload_n 1, 1) := by decide +kernel
theorem dX1_copyFrom_36 : decode cX1_copyFrom 36 = .ok (.getfield 22, 3) := by decide +kernel
theorem dX1_copyFrom_39 : decode cX1_copyFrom 39 = .ok (.iload_n 2, 1) := by decide +kernel
theorem dX1_copyFrom_40 : decode cX1_copyFrom 40 = .ok (.invokevirtual 30, 3) := by decide +kernel
theorem dX1_copyFrom_43 : decode cX1_copyFrom 43 = .ok (.checkcast 34, 3) := by decide +kernel
theorem dX1_copyFrom_46 : decode cX1_copyFrom 46 = .ok (.invokevirtual 40, 3) := by decide +kernel
theorem dX1_copyFrom_49 : decode cX1_copyFrom 49 = .ok (.iinc 2 1, 3) := by decide +kernel
theorem dX1_copyFrom_52 : decode cX1_copyFrom 52 = .ok (.goto (-50), 3) := by decide +kernel
theorem dX1_copyFrom_55 : decode cX1_copyFrom 55 = .ok (.aload_n 0, 1) := by decide +kernel
theorem dX1_copyFrom_56 : decode cX1_copyFrom 56 = .ok (.aload_n 1, 1) := by decide +kernel
theorem dX1_copyFrom_57 : decode cX1_copyFrom 57 = .ok (.getfield 9, 3) := by decide +kernel
theorem dX1_copyFrom_60 : decode cX1_copyFrom 60 = .ok (.putfield 9, 3) := by decide +kernel
theorem dX1_copyFrom_63 : decode cX1_copyFrom 63 = .ok (.aload_n 0, 1) := by decide +kernel
theorem dX1_copyFrom_64 : decode cX1_copyFrom 64 = .ok (.aload_n 1, 1) := by decide +kernel
theorem dX1_copyFrom_65 : decode cX1_copyFrom 65 = .ok (.getfield 15, 3) := by decide +kernel
theorem dX1_copyFrom_68 : decode cX1_copyFrom 68 = .ok (.putfield 15, 3) := by decide +kernel
theorem dX1_copyFrom_71 : decode cX1_copyFrom 71 = .ok (.return_, 1) := by decide +kernel
set_option maxRecDepth 20000 in
theorem ggX1_water_Jx4a65c_size_8abf5 : GoodIn wsX1_water wsJx4a65c_size_8abf5 := goodIn_r _ [7, 8, 35, 36, 37] (by decide +kernel) (by decide +kernel)
set_option maxRecDepth 20000 in
theorem gX1_water_Jx4a65c_size_8abf5 : GoodIn wsX1_water (wsV RX1 26 RJx4a65c yJx4a65c_size_8abf5 wsJx4a65c_size_8abf5) := goodIn_app (goodIn_of _ (by decide +kernel)) ggX1_water_Jx4a65c_size_8abf5
set_option maxRecDepth 20000 in
theorem ggX1_water_Jx4a65c_get_915e3 : GoodIn wsX1_water wsJx4a65c_get_915e3 := goodIn_r _ [12, 8, 13, 14, 15, 16, 17, 18, 19, 20, 21, 22, 23, 6, 24, 25, 35, 36, 37] (by decide +kernel) (by decide +kernel)
set_option maxRecDepth 20000 in
theorem gX1_water_Jx4a65c_get_915e3 : GoodIn wsX1_water (wsV RX1 30 RJx4a65c yJx4a65c_get_915e3 wsJx4a65c_get_915e3) := goodIn_app (goodIn_of _ (by decide +kernel)) ggX1_water_Jx4a65c_get_915e3
set_option maxRecDepth 20000 in
theorem ggX1_water_X0_water : GoodIn wsX1_water wsX0_water := goodIn_r _ [30, 31, 38, 39, 40] (by decide +kernel) (by decide +kernel)
set_option maxRecDepth 20000 in
theorem gX1_water_X0_water : GoodIn wsX1_water (wsV RX1 44 RX0 yX0_water wsX0_water) := goodIn_app (goodIn_of _ (by decide +kernel)) ggX1_water_X0_water
theorem dX1_water_0 : decode cX1_water 0 = .ok (.iconst 0, 1) := by decide +kernel
theorem dX1_water_1 : decode cX1_water 1 = .ok (.istore_n 1, 1) := by decide +kernel
theorem dX1_water_2 : decode cX1_water 2 = .ok (.iconst 0, 1) := by decide +kernel
theorem dX1_water_3 : decode cX1_water 3 = .ok (.istore_n 2, 1) := by decide +kernel
theorem dX1_water_4 : decode cX1_water 4 = .ok (.iload_n 2, 1) := by decide +kernel
theorem dX1_water_5 : decode cX1_water 5 = .ok (.aload_n 0, 1) := by decide +kernel
theorem dX1_water_6 : decode cX1_water 6 = .ok (.getfield 22, 3) := by decide +kernel
theorem dX1_water_9 : decode cX1_water 9 = .ok (.invokevirtual 26, 3) := by decide +kernel
theorem dX1_water_12 : decode cX1_water 12 = .ok (.if_icmp .ge 26, 3) := by decide +kernel
theorem dX1_water_15 : decode cX1_water 15 = .ok (.iload_n 1, 1) := by decide +kernel
theorem dX1_water_16 : decode cX1_water 16 = .ok (.aload_n 0, 1) := by decide +kernel
theorem dX1_water_17 : decode cX1_water 17 = .ok (.getfield 22, 3) := by decide +kernel
theorem dX1_water_20 : decode cX1_water 20 = .ok (.iload_n 2, 1) := by decide +kernel
theorem dX1_water_21 : decode cX1_water 21 = .ok (.invokevirtual 30, 3) := by decide +kernel
theorem dX1_water_24 : decode cX1_water 24 = .ok (.checkcast 34, 3) := by decide +kernel
theorem dX1_water_27 : decode cX1_water 27 = .ok (.invokevirtual 44, 3) := by decide +kernel
theorem dX1_water_30 : decode cX1_water 30 = .ok (.iadd, 1) := by decide +kernel
theorem dX1_water_31 : decode cX1_water 31 = .ok (.istore_n 1, 1) := by decide +kernel
theorem dX1_water_32 : decode cX1_water 32 = .ok (.iinc 2 1, 3) := by decide +kernel
theorem dX1_water_35 : decode cX1_water 35 = .ok (.goto (-31), 3) := by decide +kernel
theorem dX1_water_38 : decode cX1_water 38 = .ok (.iload_n 1, 1) := by decide +kernel
theorem dX1_water_39 : decode cX1_water 39 = .ok (.ireturn, 1) := by decide +kernel
set_option maxRecDepth 20000 in
theorem ggX1_wettest_Jx4a65c_size_8abf5 : GoodIn wsX1_wettest wsJx4a65c_size_8abf5 := goodIn_r _ [8, 9, 43, 44, 45] (by decide +kernel) (by decide +kernel)
set_option maxRecDepth 20000 in
theorem gX1_wettest_Jx4a65c_size_8abf5 : GoodIn wsX1_wettest (wsV RX1 26 RJx4a65c yJx4a65c_size_8abf5 wsJx4a65c_size_8abf5) := goodIn_app (goodIn_of _ (by decide +kernel)) ggX1_wettest_Jx4a65c_size_8abf5
set_option maxRecDepth 20000 in
theorem ggX1_wettest_Jx4a65c_get_915e3 : GoodIn wsX1_wettest wsJx4a65c_get_915e3 := goodIn_r _ [13, 9, 14, 15, 16, 17, 18, 19, 20, 21, 22, 23, 24, 7, 25, 26, 43, 44, 45] (by decide +kernel) (by decide +kernel)
set_option maxRecDepth 20000 in
theorem gX1_wettest_Jx4a65c_get_915e3 : GoodIn wsX1_wettest (wsV RX1 30 RJx4a65c yJx4a65c_get_915e3 wsJx4a65c_get_915e3) := goodIn_app (goodIn_of _ (by decide +kernel)) ggX1_wettest_Jx4a65c_get_915e3
set_option maxRecDepth 20000 in
theorem ggX1_wettest_X0_average : GoodIn wsX1_wettest wsX0_average := goodIn_r _ [31, 32, 33, 34, 35, 30, 36, 37, 38, 39, 46, 47, 48] (by decide +kernel) (by decide +kernel)
set_option maxRecDepth 20000 in
theorem gX1_wettest_X0_average : GoodIn wsX1_wettest (wsV RX1 48 RX0 yX0_average wsX0_average) := goodIn_app (goodIn_of _ (by decide +kernel)) ggX1_wettest_X0_average
theorem dX1_wettest_0 : decode cX1_wettest 0 = .ok (.ldc 47, 2) := by decide +kernel
theorem dX1_wettest_2 : decode cX1_wettest 2 = .ok (.istore_n 1, 1) := by decide +kernel
theorem dX1_wettest_3 : decode cX1_wettest 3 = .ok (.iconst (-1), 1) := by decide +kernel
theorem dX1_wettest_4 : decode cX1_wettest 4 = .ok (.istore_n 2, 1) := by decide +kernel
theorem dX1_wettest_5 : decode cX1_wettest 5 = .ok (.iconst 0, 1) := by decide +kernel
theorem dX1_wettest_6 : decode cX1_wettest 6 = .ok (.istore_n 3, 1) := by decide +kernel
theorem dX1_wettest_7 : decode cX1_wettest 7 = .ok (.iload_n 3, 1) := by decide +kernel
theorem dX1_wettest_8 : decode cX1_wettest 8 = .ok (.aload_n 0, 1) := by decide +kernel
theorem dX1_wettest_9 : decode cX1_wettest 9 = .ok (.getfield 22, 3) := by decide +kernel
theorem dX1_wettest_12 : decode cX1_wettest 12 = .ok (.invokevirtual 26, 3) := by decide +kernel
theorem dX1_wettest_15 : decode cX1_wettest 15 = .ok (.if_icmp .ge 36, 3) := by decide +kernel
theorem dX1_wettest_18 : decode cX1_wettest 18 = .ok (.aload_n 0, 1) := by decide +kernel
theorem dX1_wettest_19 : decode cX1_wettest 19 = .ok (.getfield 22, 3) := by decide +kernel
theorem dX1_wettest_22 : decode cX1_wettest 22 = .ok (.iload_n 3, 1) := by decide +kernel
theorem dX1_wettest_23 : decode cX1_wettest 23 = .ok (.invokevirtual 30, 3) := by decide +kernel
theorem dX1_wettest_26 : decode cX1_wettest 26 = .ok (.checkcast 34, 3) := by decide +kernel
theorem dX1_wettest_29 : decode cX1_wettest 29 = .ok (.invokevirtual 48, 3) := by decide +kernel
theorem dX1_wettest_32 : decode cX1_wettest 32 = .ok (.istore 4, 2) := by decide +kernel
theorem dX1_wettest_34 : decode cX1_wettest 34 = .ok (.iload 4, 2) := by decide +kernel
theorem dX1_wettest_36 : decode cX1_wettest 36 = .ok (.iload_n 2, 1) := by decide +kernel
theorem dX1_wettest_37 : decode cX1_wettest 37 = .ok (.if_icmp .le 8, 3) := by decide +kernel
theorem dX1_wettest_40 : decode cX1_wettest 40 = .ok (.iload_n 3, 1) := by decide +kernel
theorem dX1_wettest_41 : decode cX1_wettest 41 = .ok (.istore_n 1, 1) := by decide +kernel
theorem dX1_wettest_42 : decode cX1_wettest 42 = .ok (.iload 4, 2) := by decide +kernel
theorem dX1_wettest_44 : decode cX1_wettest 44 = .ok (.istore_n 2, 1) := by decide +kernel
theorem dX1_wettest_45 : decode cX1_wettest 45 = .ok (.iinc 3 1, 3) := by decide +kernel
theorem dX1_wettest_48 : decode cX1_wettest 48 = .ok (.goto (-41), 3) := by decide +kernel
theorem dX1_wettest_51 : decode cX1_wettest 51 = .ok (.iload_n 1, 1) := by decide +kernel
theorem dX1_wettest_52 : decode cX1_wettest 52 = .ok (.ireturn, 1) := by decide +kernel
set_option maxRecDepth 20000 in
theorem ggX1_greatestAverage_Jx4a65c_size_8abf5 : GoodIn wsX1_greatestAverage wsJx4a65c_size_8abf5 := goodIn_r _ [11, 12, 46, 47, 48] (by decide +kernel) (by decide +kernel)
set_option maxRecDepth 20000 in
theorem gX1_greatestAverage_Jx4a65c_size_8abf5 : GoodIn wsX1_greatestAverage (wsV RX1 26 RJx4a65c yJx4a65c_size_8abf5 wsJx4a65c_size_8abf5) := goodIn_app (goodIn_of _ (by decide +kernel)) ggX1_greatestAverage_Jx4a65c_size_8abf5
set_option maxRecDepth 20000 in
theorem ggX1_greatestAverage_Jx4a65c_get_915e3 : GoodIn wsX1_greatestAverage wsJx4a65c_get_915e3 := goodIn_r _ [16, 12, 17, 18, 19, 20, 21, 22, 23, 24, 25, 26, 27, 10, 28, 29, 46, 47, 48] (by decide +kernel) (by decide +kernel)
set_option maxRecDepth 20000 in
theorem gX1_greatestAverage_Jx4a65c_get_915e3 : GoodIn wsX1_greatestAverage (wsV RX1 30 RJx4a65c yJx4a65c_get_915e3 wsJx4a65c_get_915e3) := goodIn_app (goodIn_of _ (by decide +kernel)) ggX1_greatestAverage_Jx4a65c_get_915e3
set_option maxRecDepth 20000 in
theorem ggX1_greatestAverage_X0_average : GoodIn wsX1_greatestAverage wsX0_average := goodIn_r _ [34, 35, 36, 37, 38, 33, 39, 40, 41, 42, 49, 50, 51] (by decide +kernel) (by decide +kernel)
set_option maxRecDepth 20000 in
theorem gX1_greatestAverage_X0_average : GoodIn wsX1_greatestAverage (wsV RX1 48 RX0 yX0_average wsX0_average) := goodIn_app (goodIn_of _ (by decide +kernel)) ggX1_greatestAverage_X0_average
theorem dX1_greatestAverage_0 : decode cX1_greatestAverage 0 = .ok (.iconst 0, 1) := by decide +kernel
theorem dX1_greatestAverage_1 : decode cX1_greatestAverage 1 = .ok (.istore_n 1, 1) := by decide +kernel
theorem dX1_greatestAverage_2 : decode cX1_greatestAverage 2 = .ok (.iconst 0, 1) := by decide +kernel
theorem dX1_greatestAverage_3 : decode cX1_greatestAverage 3 = .ok (.istore_n 2, 1) := by decide +kernel
theorem dX1_greatestAverage_4 : decode cX1_greatestAverage 4 = .ok (.iload_n 2, 1) := by decide +kernel
theorem dX1_greatestAverage_5 : decode cX1_greatestAverage 5 = .ok (.aload_n 0, 1) := by decide +kernel
theorem dX1_greatestAverage_6 : decode cX1_greatestAverage 6 = .ok (.getfield 22, 3) := by decide +kernel
theorem dX1_greatestAverage_9 : decode cX1_greatestAverage 9 = .ok (.invokevirtual 26, 3) := by decide +kernel
theorem dX1_greatestAverage_12 : decode cX1_greatestAverage 12 = .ok (.if_icmp .ge 28, 3) := by decide +kernel
theorem dX1_greatestAverage_15 : decode cX1_greatestAverage 15 = .ok (.iload_n 1, 1) := by decide +kernel
theorem dX1_greatestAverage_16 : decode cX1_greatestAverage 16 = .ok (.aload_n 0, 1) := by decide +kernel
theorem dX1_greatestAverage_17 : decode cX1_greatestAverage 17 = .ok (.getfield 22, 3) := by decide +kernel
theorem dX1_greatestAverage_20 : decode cX1_greatestAverage 20 = .ok (.iload_n 2, 1) := by decide +kernel
theorem dX1_greatestAverage_21 : decode cX1_greatestAverage 21 = .ok (.invokevirtual 30, 3) := by decide +kernel
theorem dX1_greatestAverage_24 : decode cX1_greatestAverage 24 = .ok (.checkcast 34, 3) := by decide +kernel
theorem dX1_greatestAverage_27 : decode cX1_greatestAverage 27 = .ok (.invokevirtual 48, 3) := by decide +kernel
theorem dX1_greatestAverage_30 : decode cX1_greatestAverage 30 = .ok (.invokestatic 51, 3) := by decide +kernel
theorem dX1_greatestAverage_33 : decode cX1_greatestAverage 33 = .ok (.istore_n 1, 1) := by decide +kernel
theorem dX1_greatestAverage_34 : decode cX1_greatestAverage 34 = .ok (.iinc 2 1, 3) := by decide +kernel
theorem dX1_greatestAverage_37 : decode cX1_greatestAverage 37 = .ok (.goto (-33), 3) := by decide +kernel
theorem dX1_greatestAverage_40 : decode cX1_greatestAverage 40 = .ok (.iload_n 1, 1) := by decide +kernel
theorem dX1_greatestAverage_41 : decode cX1_greatestAverage 41 = .ok (.ireturn, 1) := by decide +kernel
set_option maxRecDepth 20000 in
theorem ggX1_isWetterThan_X1_greatestAverage : GoodIn wsX1_isWetterThan wsX1_greatestAverage := goodIn_r _ [5, 6, 7, 8, 9, 10, 11, 12, 13, 14, 15, 16, 17, 18, 19, 20, 21, 22, 23, 24, 25, 26, 27, 28, 29, 30, 31, 32, 33, 34, 35, 36, 37, 38, 39, 40, 41, 42, 43, 44, 45, 46, 47, 48, 49, 50, 51, 52, 53, 54, 55, 56] (by decide +kernel) (by decide +kernel)
set_option maxRecDepth 20000 in
theorem gX1_isWetterThan_X1_greatestAverage : GoodIn wsX1_isWetterThan (wsV RX1 57 RX1 yX1_greatestAverage wsX1_greatestAverage) := goodIn_app (goodIn_of _ (by decide +kernel)) ggX1_isWetterThan_X1_greatestAverage
theorem dX1_isWetterThan_0 : decode cX1_isWetterThan 0 = .ok (.aload_n 0, 1) := by decide +kernel
theorem dX1_isWetterThan_1 : decode cX1_isWetterThan 1 = .ok (.invokevirtual 57, 3) := by decide +kernel
theorem dX1_isWetterThan_4 : decode cX1_isWetterThan 4 = .ok (.iload_n 1, 1) := by decide +kernel
theorem dX1_isWetterThan_5 : decode cX1_isWetterThan 5 = .ok (.if_icmp .le 7, 3) := by decide +kernel
theorem dX1_isWetterThan_8 : decode cX1_isWetterThan 8 = .ok (.iconst 1, 1) := by decide +kernel
theorem dX1_isWetterThan_9 : decode cX1_isWetterThan 9 = .ok (.goto 4, 3) := by decide +kernel
theorem dX1_isWetterThan_12 : decode cX1_isWetterThan 12 = .ok (.iconst 0, 1) := by decide +kernel
theorem dX1_isWetterThan_13 : decode cX1_isWetterThan 13 = .ok (.ireturn, 1) := by decide +kernel
set_option maxRecDepth 20000 in
theorem ggX1_greatestGradient_Jx4a65c_size_8abf5 : GoodIn wsX1_greatestGradient wsJx4a65c_size_8abf5 := goodIn_r _ [11, 12, 43, 44, 45] (by decide +kernel) (by decide +kernel)
set_option maxRecDepth 20000 in
theorem gX1_greatestGradient_Jx4a65c_size_8abf5 : GoodIn wsX1_greatestGradient (wsV RX1 26 RJx4a65c yJx4a65c_size_8abf5 wsJx4a65c_size_8abf5) := goodIn_app (goodIn_of _ (by decide +kernel)) ggX1_greatestGradient_Jx4a65c_size_8abf5
set_option maxRecDepth 20000 in
theorem ggX1_greatestGradient_Jx4a65c_get_915e3 : GoodIn wsX1_greatestGradient wsJx4a65c_get_915e3 := goodIn_r _ [16, 12, 17, 18, 19, 20, 21, 22, 23, 24, 25, 26, 27, 10, 28, 29, 43, 44, 45] (by decide +kernel) (by decide +kernel)
set_option maxRecDepth 20000 in
theorem gX1_greatestGradient_Jx4a65c_get_915e3 : GoodIn wsX1_greatestGradient (wsV RX1 30 RJx4a65c yJx4a65c_get_915e3 wsJx4a65c_get_915e3) := goodIn_app (goodIn_of _ (by decide +kernel)) ggX1_greatestGradient_Jx4a65c_get_915e3
set_option maxRecDepth 20000 in
theorem ggX1_greatestGradient_X0_gradient : GoodIn wsX1_greatestGradient wsX0_gradient := goodIn_r _ [34, 35, 36, 4, 5, 6, 37, 38, 39, 46, 47, 48] (by decide +kernel) (by decide +kernel)
set_option maxRecDepth 20000 in
theorem gX1_greatestGradient_X0_gradient : GoodIn wsX1_greatestGradient (wsV RX1 60 RX0 yX0_gradient wsX0_gradient) := goodIn_app (goodIn_of _ (by decide +kernel)) ggX1_greatestGradient_X0_gradient
theorem dX1_greatestGradient_0 : decode cX1_greatestGradient 0 = .ok (.iconst 0, 1) := by decide +kernel
theorem dX1_greatestGradient_1 : decode cX1_greatestGradient 1 = .ok (.istore_n 1, 1) := by decide +kernel
theorem dX1_greatestGradient_2 : decode cX1_greatestGradient 2 = .ok (.iconst 0, 1) := by decide +kernel
theorem dX1_greatestGradient_3 : decode cX1_greatestGradient 3 = .ok (.istore_n 2, 1) := by decide +kernel
theorem dX1_greatestGradient_4 : decode cX1_greatestGradient 4 = .ok (.iload_n 2, 1) := by decide +kernel
theorem dX1_greatestGradient_5 : decode cX1_greatestGradient 5 = .ok (.aload_n 0, 1) := by decide +kernel
theorem dX1_greatestGradient_6 : decode cX1_greatestGradient 6 = .ok (.getfield 22, 3) := by decide +kernel
theorem dX1_greatestGradient_9 : decode cX1_greatestGradient 9 = .ok (.invokevirtual 26, 3) := by decide +kernel
theorem dX1_greatestGradient_12 : decode cX1_greatestGradient 12 = .ok (.if_icmp .ge 28, 3) := by decide +kernel
theorem dX1_greatestGradient_15 : decode cX1_greatestGradient 15 = .ok (.iload_n 1, 1) := by decide +kernel
theorem dX1_greatestGradient_16 : decode cX1_greatestGradient 16 = .ok (.aload_n 0, 1) := by decide +kernel
theorem dX1_greatestGradient_17 : decode cX1_greatestGradient 17 = .ok (.getfield 22, 3) := by decide +kernel
theorem dX1_greatestGradient_20 : decode cX1_greatestGradient 20 = .ok (.iload_n 2, 1) := by decide +kernel
theorem dX1_greatestGradient_21 : decode cX1_greatestGradient 21 = .ok (.invokevirtual 30, 3) := by decide +kernel
theorem dX1_greatestGradient_24 : decode cX1_greatestGradient 24 = .ok (.checkcast 34, 3) := by decide +kernel
theorem dX1_greatestGradient_27 : decode cX1_greatestGradient 27 = .ok (.invokevirtual 60, 3) := by decide +kernel
theorem dX1_greatestGradient_30 : decode cX1_greatestGradient 30 = .ok (.invokestatic 51, 3) := by decide +kernel
theorem dX1_greatestGradient_33 : decode cX1_greatestGradient 33 = .ok (.istore_n 1, 1) := by decide +kernel
theorem dX1_greatestGradient_34 : decode cX1_greatestGradient 34 = .ok (.iinc 2 1, 3) := by decide +kernel
theorem dX1_greatestGradient_37 : decode cX1_greatestGradient 37 = .ok (.goto (-33), 3) := by decide +kernel
theorem dX1_greatestGradient_40 : decode cX1_greatestGradient 40 = .ok (.iload_n 1, 1) := by decide +kernel
theorem dX1_greatestGradient_41 : decode cX1_greatestGradient 41 = .ok (.ireturn, 1) := by decide +kernel
set_option maxRecDepth 20000 in
theorem ggX1_meanOf_Jx4a65c_size_8abf5 : GoodIn wsX1_meanOf wsJx4a65c_size_8abf5 := goodIn_r _ [7, 8, 49, 50, 51] (by decide +kernel) (by decide +kernel)
set_option maxRecDepth 20000 in
theorem gX1_meanOf_Jx4a65c_size_8abf5 : GoodIn wsX1_meanOf (wsV RX1 26 RJx4a65c yJx4a65c_size_8abf5 wsJx4a65c_size_8abf5) := goodIn_app (goodIn_of _ (by decide +kernel)) ggX1_meanOf_Jx4a65c_size_8abf5
set_option maxRecDepth 20000 in
theorem ggX1_meanOf_Jx4a65c_get_915e3 : GoodIn wsX1_meanOf wsJx4a65c_get_915e3 := goodIn_r _ [12, 8, 13, 14, 15, 16, 17, 18, 19, 20, 21, 22, 23, 6, 24, 25, 49, 50, 51] (by decide +kernel) (by decide +kernel)
set_option maxRecDepth 20000 in
theorem gX1_meanOf_Jx4a65c_get_915e3 : GoodIn wsX1_meanOf (wsV RX1 30 RJx4a65c yJx4a65c_get_915e3 wsJx4a65c_get_915e3) := goodIn_app (goodIn_of _ (by decide +kernel)) ggX1_meanOf_Jx4a65c_get_915e3
set_option maxRecDepth 20000 in
theorem ggX1_meanOf_X0_average : GoodIn wsX1_meanOf wsX0_average := goodIn_r _ [30, 31, 32, 33, 34, 29, 35, 36, 37, 38, 52, 53, 54] (by decide +kernel) (by decide +kernel)
set_option maxRecDepth 20000 in
theorem gX1_meanOf_X0_average : GoodIn wsX1_meanOf (wsV RX1 48 RX0 yX0_average wsX0_average) := goodIn_app (goodIn_of _ (by decide +kernel)) ggX1_meanOf_X0_average
set_option maxRecDepth 20000 in
theorem ggX1_meanOf_J6_bitCount_0f7a4 : GoodIn wsX1_meanOf wsJ6_bitCount_0f7a4 := goodIn_r _ [42, 43, 44, 45] (by decide +kernel) (by decide +kernel)
set_option maxRecDepth 20000 in
theorem gX1_meanOf_J6_bitCount_0f7a4 : GoodIn wsX1_meanOf (va_wsS RX1 63 yJ6_bitCount_0f7a4 wsJ6_bitCount_0f7a4) := goodIn_app (goodIn_of _ (by decide +kernel)) ggX1_meanOf_J6_bitCount_0f7a4
set_option maxRecDepth 20000 in
theorem ggX1_meanOf_X4_quotient : GoodIn wsX1_meanOf wsX4_quotient := goodIn_r _ [38] (by decide +kernel) (by decide +kernel)
set_option maxRecDepth 20000 in
theorem gX1_meanOf_X4_quotient_n69 : GoodIn wsX1_meanOf (wsX4_quotient) := ggX1_meanOf_X4_quotient
theorem dX1_meanOf_0 : decode cX1_meanOf 0 = .ok (.iconst 0, 1) := by decide +kernel
theorem dX1_meanOf_1 : decode cX1_meanOf 1 = .ok (.istore_n 2, 1) := by decide +kernel
theorem dX1_meanOf_2 : decode cX1_meanOf 2 = .ok (.iconst 0, 1) := by decide +kernel
theorem dX1_meanOf_3 : decode cX1_meanOf 3 = .ok (.istore_n 3, 1) := by decide +kernel
theorem dX1_meanOf_4 : decode cX1_meanOf 4 = .ok (.iload_n 3, 1) := by decide +kernel
theorem dX1_meanOf_5 : decode cX1_meanOf 5 = .ok (.aload_n 0, 1) := by decide +kernel
theorem dX1_meanOf_6 : decode cX1_meanOf 6 = .ok (.getfield 22, 3) := by decide +kernel
theorem dX1_meanOf_9 : decode cX1_meanOf 9 = .ok (.invokevirtual 26, 3) := by decide +kernel
theorem dX1_meanOf_12 : decode cX1_meanOf 12 = .ok (.if_icmp .ge 35, 3) := by decide +kernel
theorem dX1_meanOf_15 : decode cX1_meanOf 15 = .ok (.iload_n 1, 1) := by decide +kernel
theorem dX1_meanOf_16 : decode cX1_meanOf 16 = .ok (.iload_n 3, 1) := by decide +kernel
theorem dX1_meanOf_17 : decode cX1_meanOf 17 = .ok (.ishr, 1) := by decide +kernel
theorem dX1_meanOf_18 : decode cX1_meanOf 18 = .ok (.iconst 1, 1) := by decide +kernel
theorem dX1_meanOf_19 : decode cX1_meanOf 19 = .ok (.iand, 1) := by decide +kernel
theorem dX1_meanOf_20 : decode cX1_meanOf 20 = .ok (.iconst 1, 1) := by decide +kernel
theorem dX1_meanOf_21 : decode cX1_meanOf 21 = .ok (.if_icmp .ne 20, 3) := by decide +kernel
theorem dX1_meanOf_24 : decode cX1_meanOf 24 = .ok (.iload_n 2, 1) := by decide +kernel
theorem dX1_meanOf_25 : decode cX1_meanOf 25 = .ok (.aload_n 0, 1) := by decide +kernel
theorem dX1_meanOf_26 : decode cX1_meanOf 26 = .ok (.getfield 22, 3) := by decide +kernel
theorem dX1_meanOf_29 : decode cX1_meanOf 29 = .ok (.iload_n 3, 1) := by decide +kernel
theorem dX1_meanOf_30 : decode cX1_meanOf 30 = .ok (.invokevirtual 30, 3) := by decide +kernel
theorem dX1_meanOf_33 : decode cX1_meanOf 33 = .ok (.checkcast 34, 3) := by decide +kernel
theorem dX1_meanOf_36 : decode cX1_meanOf 36 = .ok (.invokevirtual 48, 3) := by decide +kernel
theorem dX1_meanOf_39 : decode cX1_meanOf 39 = .ok (.iadd, 1) := by decide +kernel
theorem dX1_meanOf_40 : decode cX1_meanOf 40 = .ok (.istore_n 2, 1) := by decide +kernel
theorem dX1_meanOf_41 : decode cX1_meanOf 41 = .ok (.iinc 3 1, 3) := by decide +kernel
theorem dX1_meanOf_44 : decode cX1_meanOf 44 = .ok (.goto (-40), 3) := by decide +kernel
theorem dX1_meanOf_47 : decode cX1_meanOf 47 = .ok (.iload_n 2, 1) := by decide +kernel
theorem dX1_meanOf_48 : decode cX1_meanOf 48 = .ok (.iload_n 1, 1) := by decide +kernel
theorem dX1_meanOf_49 : decode cX1_meanOf 49 = .ok (.invokestatic 63, 3) := by decide +kernel
theorem dX1_meanOf_52 : decode cX1_meanOf 52 = .ok (.invokestatic 69, 3) := by decide +kernel
theorem dX1_meanOf_55 : decode cX1_meanOf 55 = .ok (.ireturn, 1) := by decide +kernel
set_option maxRecDepth 20000 in
theorem ggX1_passDryingHour_Jx4a65c_size_8abf5 : GoodIn wsX1_passDryingHour wsJx4a65c_size_8abf5 := goodIn_r _ [14, 15, 64, 65, 66] (by decide +kernel) (by decide +kernel)
set_option maxRecDepth 20000 in
theorem gX1_passDryingHour_Jx4a65c_size_8abf5 : GoodIn wsX1_passDryingHour (wsV RX1 26 RJx4a65c yJx4a65c_size_8abf5 wsJx4a65c_size_8abf5) := goodIn_app (goodIn_of _ (by decide +kernel)) ggX1_passDryingHour_Jx4a65c_size_8abf5
set_option maxRecDepth 20000 in
theorem ggX1_passDryingHour_X4_quotient : GoodIn wsX1_passDryingHour wsX4_quotient := goodIn_r _ [18] (by decide +kernel) (by decide +kernel)
set_option maxRecDepth 20000 in
theorem gX1_passDryingHour_X4_quotient_n69 : GoodIn wsX1_passDryingHour (wsX4_quotient) := ggX1_passDryingHour_X4_quotient
set_option maxRecDepth 20000 in
theorem ggX1_passDryingHour_Jx4a65c_get_915e3 : GoodIn wsX1_passDryingHour wsJx4a65c_get_915e3 := goodIn_r _ [22, 15, 23, 24, 25, 26, 27, 28, 29, 30, 31, 32, 33, 13, 34, 35, 64, 65, 66] (by decide +kernel) (by decide +kernel)
set_option maxRecDepth 20000 in
theorem gX1_passDryingHour_Jx4a65c_get_915e3 : GoodIn wsX1_passDryingHour (wsV RX1 30 RJx4a65c yJx4a65c_get_915e3 wsJx4a65c_get_915e3) := goodIn_app (goodIn_of _ (by decide +kernel)) ggX1_passDryingHour_Jx4a65c_get_915e3
set_option maxRecDepth 20000 in
theorem ggX1_passDryingHour_X0_passDryingHour : GoodIn wsX1_passDryingHour wsX0_passDryingHour := goodIn_r _ [40, 41, 42, 43, 44, 45, 46, 47, 39, 48, 67, 68, 69, 58, 59, 60, 61, 62, 63] (by decide +kernel) (by decide +kernel)
set_option maxRecDepth 20000 in
theorem gX1_passDryingHour_X0_passDryingHour : GoodIn wsX1_passDryingHour (wsV RX1 77 RX0 yX0_passDryingHour wsX0_passDryingHour) := goodIn_app (goodIn_of _ (by decide +kernel)) ggX1_passDryingHour_X0_passDryingHour
set_option maxRecDepth 20000 in
theorem ggX1_passDryingHour_X1_countDryingHour : GoodIn wsX1_passDryingHour wsX1_countDryingHour := goodIn_r _ [53, 54, 2, 55, 56, 57] (by decide +kernel) (by decide +kernel)
set_option maxRecDepth 20000 in
theorem gX1_passDryingHour_X1_countDryingHour : GoodIn wsX1_passDryingHour (wsV RX1 84 RX1 yX1_countDryingHour wsX1_countDryingHour) := goodIn_app (goodIn_of _ (by decide +kernel)) ggX1_passDryingHour_X1_countDryingHour
theorem dX1_passDryingHour_0 : decode cX1_passDryingHour 0 = .ok (.iconst 0, 1) := by decide +kernel
theorem dX1_passDryingHour_1 : decode cX1_passDryingHour 1 = .ok (.istore_n 3, 1) := by decide +kernel
theorem dX1_passDryingHour_2 : decode cX1_passDryingHour 2 = .ok (.iconst 0, 1) := by decide +kernel
theorem dX1_passDryingHour_3 : decode cX1_passDryingHour 3 = .ok (.istore 4, 2) := by decide +kernel
theorem dX1_passDryingHour_5 : decode cX1_passDryingHour 5 = .ok (.iload 4, 2) := by decide +kernel
theorem dX1_passDryingHour_7 : decode cX1_passDryingHour 7 = .ok (.aload_n 0, 1) := by decide +kernel
theorem dX1_passDryingHour_8 : decode cX1_passDryingHour 8 = .ok (.getfield 22, 3) := by decide +kernel
theorem dX1_passDryingHour_11 : decode cX1_passDryingHour 11 = .ok (.invokevirtual 26, 3) := by decide +kernel
theorem dX1_passDryingHour_14 : decode cX1_passDryingHour 14 = .ok (.if_icmp .ge 72, 3) := by decide +kernel
theorem dX1_passDryingHour_17 : decode cX1_passDryingHour 17 = .ok (.aload_n 0, 1) := by decide +kernel
theorem dX1_passDryingHour_18 : decode cX1_passDryingHour 18 = .ok (.getfield 9, 3) := by decide +kernel
theorem dX1_passDryingHour_21 : decode cX1_passDryingHour 21 = .ok (.ifCond .eq 18, 3) := by decide +kernel
theorem dX1_passDryingHour_24 : decode cX1_passDryingHour 24 = .ok (.aload_n 0, 1) := by decide +kernel
theorem dX1_passDryingHour_25 : decode cX1_passDryingHour 25 = .ok (.getfield 22, 3) := by decide +kernel
theorem dX1_passDryingHour_28 : decode cX1_passDryingHour 28 = .ok (.invokevirtual 26, 3) := by decide +kernel
theorem dX1_passDryingHour_31 : decode cX1_passDryingHour 31 = .ok (.iconst 1, 1) := by decide +kernel
theorem dX1_passDryingHour_32 : decode cX1_passDryingHour 32 = .ok (.isub, 1) := by decide +kernel
theorem dX1_passDryingHour_33 : decode cX1_passDryingHour 33 = .ok (.iload 4, 2) := by decide +kernel
theorem dX1_passDryingHour_35 : decode cX1_passDryingHour 35 = .ok (.isub, 1) := by decide +kernel
theorem dX1_passDryingHour_36 : decode cX1_passDryingHour 36 = .ok (.goto 5, 3) := by decide +kernel
theorem dX1_passDryingHour_39 : decode cX1_passDryingHour 39 = .ok (.iload 4, 2) := by decide +kernel
theorem dX1_passDryingHour_41 : decode cX1_passDryingHour 41 = .ok (.istore 5, 2) := by decide +kernel
theorem dX1_passDryingHour_43 : decode cX1_passDryingHour 43 = .ok (.iconst 0, 1) := by decide +kernel
theorem dX1_passDryingHour_44 : decode cX1_passDryingHour 44 = .ok (.iload_n 1, 1) := by decide +kernel
theorem dX1_passDryingHour_45 : decode cX1_passDryingHour 45 = .ok (.iload_n 3, 1) := by decide +kernel
theorem dX1_passDryingHour_46 : decode cX1_passDryingHour 46 = .ok (.aload_n 2, 1) := by decide +kernel
theorem dX1_passDryingHour_47 : decode cX1_passDryingHour 47 = .ok (.getfield 72, 3) := by decide +kernel
theorem dX1_passDryingHour_50 : decode cX1_passDryingHour 50 = .ok (.invokestatic 69, 3) := by decide +kernel
theorem dX1_passDryingHour_53 : decode cX1_passDryingHour 53 = .ok (.iadd, 1) := by decide +kernel
theorem dX1_passDryingHour_54 : decode cX1_passDryingHour 54 = .ok (.invokestatic 51, 3) := by decide +kernel
theorem dX1_passDryingHour_57 : decode cX1_passDryingHour 57 = .ok (.istore 6, 2) := by decide +kernel
theorem dX1_passDryingHour_59 : decode cX1_passDryingHour 59 = .ok (.iload_n 3, 1) := by decide +kernel
theorem dX1_passDryingHour_60 : decode cX1_passDryingHour 60 = .ok (.aload_n 0, 1) := by decide +kernel
theorem dX1_passDryingHour_61 : decode cX1_passDryingHour 61 = .ok (.getfield 22, 3) := by decide +kernel
theorem dX1_passDryingHour_64 : decode cX1_passDryingHour 64 = .ok (.iload 5, 2) := by decide +kernel
theorem dX1_passDryingHour_66 : decode cX1_passDryingHour 66 = .ok (.invokevirtual 30, 3) := by decide +kernel
theorem dX1_passDryingHour_69 : decode cX1_passDryingHour 69 = .ok (.checkcast 34, 3) := by decide +kernel
theorem dX1_passDryingHour_72 : decode cX1_passDryingHour 72 = .ok (.iload 6, 2) := by decide +kernel
theorem dX1_passDryingHour_74 : decode cX1_passDryingHour 74 = .ok (.aload_n 2, 1) := by decide +kernel
theorem dX1_passDryingHour_75 : decode cX1_passDryingHour 75 = .ok (.invokevirtual 77, 3) := by decide +kernel
theorem dX1_passDryingHour_78 : decode cX1_passDryingHour 78 = .ok (.iadd, 1) := by decide +kernel
theorem dX1_passDryingHour_79 : decode cX1_passDryingHour 79 = .ok (.istore_n 3, 1) := by decide +kernel
theorem dX1_passDryingHour_80 : decode cX1_passDryingHour 80 = .ok (.iinc 4 1, 3) := by decide +kernel
theorem dX1_passDryingHour_83 : decode cX1_passDryingHour 83 = .ok (.goto (-78), 3) := by decide +kernel
theorem dX1_passDryingHour_86 : decode cX1_passDryingHour 86 = .ok (.aload_n 0, 1) := by decide +kernel
theorem dX1_passDryingHour_87 : decode cX1_passDryingHour 87 = .ok (.aload_n 2, 1) := by decide +kernel
theorem dX1_passDryingHour_88 : decode cX1_passDryingHour 88 = .ok (.getfield 81, 3) := by decide +kernel
theorem dX1_passDryingHour_91 : decode cX1_passDryingHour 91 = .ok (.invokevirtual 84, 3) := by decide +kernel
theorem dX1_passDryingHour_94 : decode cX1_passDryingHour 94 = .ok (.iload_n 3, 1) := by decide +kernel
theorem dX1_passDryingHour_95 : decode cX1_passDryingHour 95 = .ok (.ireturn, 1) := by decide +kernel
theorem dX1_countDryingHour_0 : decode cX1_countDryingHour 0 = .ok (.aload_n 0, 1) := by decide +kernel
theorem dX1_countDryingHour_1 : decode cX1_countDryingHour 1 = .ok (.dup, 1) := by decide +kernel
theorem dX1_countDryingHour_2 : decode cX1_countDryingHour 2 = .ok (.getfield 15, 3) := by decide +kernel
theorem dX1_countDryingHour_5 : decode cX1_countDryingHour 5 = .ok (.iconst 1, 1) := by decide +kernel
theorem dX1_countDryingHour_6 : decode cX1_countDryingHour 6 = .ok (.iadd, 1) := by decide +kernel
theorem dX1_countDryingHour_7 : decode cX1_countDryingHour 7 = .ok (.putfield 15, 3) := by decide +kernel
theorem dX1_countDryingHour_10 : decode cX1_countDryingHour 10 = .ok (.iload_n 1, 1) := by decide +kernel
theorem dX1_countDryingHour_11 : decode cX1_countDryingHour 11 = .ok (.ifCond .le 28, 3) := by decide +kernel
theorem dX1_countDryingHour_14 : decode cX1_countDryingHour 14 = .ok (.aload_n 0, 1) := by decide +kernel
theorem dX1_countDryingHour_15 : decode cX1_countDryingHour 15 = .ok (.getfield 15, 3) := by decide +kernel
theorem dX1_countDryingHour_18 : decode cX1_countDryingHour 18 = .ok (.iload_n 1, 1) := by decide +kernel
theorem dX1_countDryingHour_19 : decode cX1_countDryingHour 19 = .ok (.irem, 1) := by decide +kernel
theorem dX1_countDryingHour_20 : decode cX1_countDryingHour 20 = .ok (.ifCond .ne 19, 3) := by decide +kernel
theorem dX1_countDryingHour_23 : decode cX1_countDryingHour 23 = .ok (.aload_n 0, 1) := by decide +kernel
theorem dX1_countDryingHour_24 : decode cX1_countDryingHour 24 = .ok (.aload_n 0, 1) := by decide +kernel
theorem dX1_countDryingHour_25 : decode cX1_countDryingHour 25 = .ok (.getfield 9, 3) := by decide +kernel
theorem dX1_countDryingHour_28 : decode cX1_countDryingHour 28 = .ok (.ifCond .ne 7, 3) := by decide +kernel
theorem dX1_countDryingHour_31 : decode cX1_countDryingHour 31 = .ok (.iconst 1, 1) := by decide +kernel
theorem dX1_countDryingHour_32 : decode cX1_countDryingHour 32 = .ok (.goto 4, 3) := by decide +kernel
theorem dX1_countDryingHour_35 : decode cX1_countDryingHour 35 = .ok (.iconst 0, 1) := by decide +kernel
theorem dX1_countDryingHour_36 : decode cX1_countDryingHour 36 = .ok (.putfield 9, 3) := by decide +kernel
theorem dX1_countDryingHour_39 : decode cX1_countDryingHour 39 = .ok (.return_, 1) := by decide +kernel
set_option maxRecDepth 20000 in
theorem ggX1_passRestHour_Jx4a65c_size_8abf5 : GoodIn wsX1_passRestHour wsJx4a65c_size_8abf5 := goodIn_r _ [8, 9, 46, 47, 48] (by decide +kernel) (by decide +kernel)
set_option maxRecDepth 20000 in
theorem gX1_passRestHour_Jx4a65c_size_8abf5 : GoodIn wsX1_passRestHour (wsV RX1 26 RJx4a65c yJx4a65c_size_8abf5 wsJx4a65c_size_8abf5) := goodIn_app (goodIn_of _ (by decide +kernel)) ggX1_passRestHour_Jx4a65c_size_8abf5
set_option maxRecDepth 20000 in
theorem ggX1_passRestHour_Jx4a65c_get_915e3 : GoodIn wsX1_passRestHour wsJx4a65c_get_915e3 := goodIn_r _ [13, 9, 14, 15, 16, 17, 18, 19, 20, 21, 22, 23, 24, 7, 25, 26, 46, 47, 48] (by decide +kernel) (by decide +kernel)
set_option maxRecDepth 20000 in
theorem gX1_passRestHour_Jx4a65c_get_915e3 : GoodIn wsX1_passRestHour (wsV RX1 30 RJx4a65c yJx4a65c_get_915e3 wsJx4a65c_get_915e3) := goodIn_app (goodIn_of _ (by decide +kernel)) ggX1_passRestHour_Jx4a65c_get_915e3
set_option maxRecDepth 20000 in
theorem ggX1_passRestHour_X0_passRestHour : GoodIn wsX1_passRestHour wsX0_passRestHour := goodIn_r _ [31, 32, 33, 34, 30, 35, 36, 49, 50, 51] (by decide +kernel) (by decide +kernel)
set_option maxRecDepth 20000 in
theorem gX1_passRestHour_X0_passRestHour : GoodIn wsX1_passRestHour (wsV RX1 91 RX0 yX0_passRestHour wsX0_passRestHour) := goodIn_app (goodIn_of _ (by decide +kernel)) ggX1_passRestHour_X0_passRestHour
theorem dX1_passRestHour_0 : decode cX1_passRestHour 0 = .ok (.iconst 0, 1) := by decide +kernel
theorem dX1_passRestHour_1 : decode cX1_passRestHour 1 = .ok (.istore_n 2, 1) := by decide +kernel
theorem dX1_passRestHour_2 : decode cX1_passRestHour 2 = .ok (.iload_n 2, 1) := by decide +kernel
theorem dX1_passRestHour_3 : decode cX1_passRestHour 3 = .ok (.aload_n 0, 1) := by decide +kernel
theorem dX1_passRestHour_4 : decode cX1_passRestHour 4 = .ok (.getfield 22, 3) := by decide +kernel
theorem dX1_passRestHour_7 : decode cX1_passRestHour 7 = .ok (.invokevirtual 26, 3) := by decide +kernel
theorem dX1_passRestHour_10 : decode cX1_passRestHour 10 = .ok (.if_icmp .ge 27, 3) := by decide +kernel
theorem dX1_passRestHour_13 : decode cX1_passRestHour 13 = .ok (.aload_n 0, 1) := by decide +kernel
theorem dX1_passRestHour_14 : decode cX1_passRestHour 14 = .ok (.getfield 22, 3) := by decide +kernel
theorem dX1_passRestHour_17 : decode cX1_passRestHour 17 = .ok (.iload_n 2, 1) := by decide +kernel
theorem dX1_passRestHour_18 : decode cX1_passRestHour 18 = .ok (.invokevirtual 30, 3) := by decide +kernel
theorem dX1_passRestHour_21 : decode cX1_passRestHour 21 = .ok (.checkcast 34, 3) := by decide +kernel
theorem dX1_passRestHour_24 : decode cX1_passRestHour 24 = .ok (.aload_n 1, 1) := by decide +kernel
theorem dX1_passRestHour_25 : decode cX1_passRestHour 25 = .ok (.getfield 88, 3) := by decide +kernel
theorem dX1_passRestHour_28 : decode cX1_passRestHour 28 = .ok (.invokevirtual 91, 3) := by decide +kernel
theorem dX1_passRestHour_31 : decode cX1_passRestHour 31 = .ok (.iinc 2 1, 3) := by decide +kernel
theorem dX1_passRestHour_34 : decode cX1_passRestHour 34 = .ok (.goto (-32), 3) := by decide +kernel
theorem dX1_passRestHour_37 : decode cX1_passRestHour 37 = .ok (.return_, 1) := by decide +kernel
set_option maxRecDepth 20000 in
theorem ggX1_recordChecks_Jx4a65c_size_8abf5 : GoodIn wsX1_recordChecks wsJx4a65c_size_8abf5 := goodIn_r _ [9, 10, 47, 48, 49] (by decide +kernel) (by decide +kernel)
set_option maxRecDepth 20000 in
theorem gX1_recordChecks_Jx4a65c_size_8abf5 : GoodIn wsX1_recordChecks (wsV RX1 26 RJx4a65c yJx4a65c_size_8abf5 wsJx4a65c_size_8abf5) := goodIn_app (goodIn_of _ (by decide +kernel)) ggX1_recordChecks_Jx4a65c_size_8abf5
set_option maxRecDepth 20000 in
theorem ggX1_recordChecks_Jx4a65c_get_915e3 : GoodIn wsX1_recordChecks wsJx4a65c_get_915e3 := goodIn_r _ [14, 10, 15, 16, 17, 18, 19, 20, 21, 22, 23, 24, 25, 8, 26, 27, 47, 48, 49] (by decide +kernel) (by decide +kernel)
set_option maxRecDepth 20000 in
theorem gX1_recordChecks_Jx4a65c_get_915e3 : GoodIn wsX1_recordChecks (wsV RX1 30 RJx4a65c yJx4a65c_get_915e3 wsJx4a65c_get_915e3) := goodIn_app (goodIn_of _ (by decide +kernel)) ggX1_recordChecks_Jx4a65c_get_915e3
set_option maxRecDepth 20000 in
theorem ggX1_recordChecks_X0_gradient : GoodIn wsX1_recordChecks wsX0_gradient := goodIn_r _ [32, 33, 34, 35, 36, 37, 38, 39, 40, 44, 45, 46] (by decide +kernel) (by decide +kernel)
set_option maxRecDepth 20000 in
theorem gX1_recordChecks_X0_gradient : GoodIn wsX1_recordChecks (wsV RX1 60 RX0 yX0_gradient wsX0_gradient) := goodIn_app (goodIn_of _ (by decide +kernel)) ggX1_recordChecks_X0_gradient
theorem dX1_recordChecks_0 : decode cX1_recordChecks 0 = .ok (.iconst 0, 1) := by decide +kernel
theorem dX1_recordChecks_1 : decode cX1_recordChecks 1 = .ok (.istore_n 3, 1) := by decide +kernel
theorem dX1_recordChecks_2 : decode cX1_recordChecks 2 = .ok (.iconst 0, 1) := by decide +kernel
theorem dX1_recordChecks_3 : decode cX1_recordChecks 3 = .ok (.istore 4, 2) := by decide +kernel
theorem dX1_recordChecks_5 : decode cX1_recordChecks 5 = .ok (.iload 4, 2) := by decide +kernel
theorem dX1_recordChecks_7 : decode cX1_recordChecks 7 = .ok (.aload_n 0, 1) := by decide +kernel
theorem dX1_recordChecks_8 : decode cX1_recordChecks 8 = .ok (.getfield 22, 3) := by decide +kernel
theorem dX1_recordChecks_11 : decode cX1_recordChecks 11 = .ok (.invokevirtual 26, 3) := by decide +kernel
theorem dX1_recordChecks_14 : decode cX1_recordChecks 14 = .ok (.if_icmp .ge 51, 3) := by decide +kernel
theorem dX1_recordChecks_17 : decode cX1_recordChecks 17 = .ok (.aload_n 0, 1) := by decide +kernel
theorem dX1_recordChecks_18 : decode cX1_recordChecks 18 = .ok (.getfield 22, 3) := by decide +kernel
theorem dX1_recordChecks_21 : decode cX1_recordChecks 21 = .ok (.iload 4, 2) := by decide +kernel
theorem dX1_recordChecks_23 : decode cX1_recordChecks 23 = .ok (.invokevirtual 30, 3) := by decide +kernel
theorem dX1_recordChecks_26 : decode cX1_recordChecks 26 = .ok (.checkcast 34, 3) := by decide +kernel
theorem dX1_recordChecks_29 : decode cX1_recordChecks 29 = .ok (.astore 5, 2) := by decide +kernel
theorem dX1_recordChecks_31 : decode cX1_recordChecks 31 = .ok (.aload 5, 2) := by decide +kernel
theorem dX1_recordChecks_33 : decode cX1_recordChecks 33 = .ok (.getfield 94, 3) := by decide +kernel
theorem dX1_recordChecks_36 : decode cX1_recordChecks 36 = .ok (.ldc 47, 2) := by decide +kernel
theorem dX1_recordChecks_38 : decode cX1_recordChecks 38 = .ok (.if_icmp .ne 21, 3) := by decide +kernel
theorem dX1_recordChecks_41 : decode cX1_recordChecks 41 = .ok (.aload 5, 2) := by decide +kernel
theorem dX1_recordChecks_43 : decode cX1_recordChecks 43 = .ok (.invokevirtual 60, 3) := by decide +kernel
theorem dX1_recordChecks_46 : decode cX1_recordChecks 46 = .ok (.iload_n 1, 1) := by decide +kernel
theorem dX1_recordChecks_47 : decode cX1_recordChecks 47 = .ok (.if_icmp .le 12, 3) := by decide +kernel
theorem dX1_recordChecks_50 : decode cX1_recordChecks 50 = .ok (.aload 5, 2) := by decide +kernel
theorem dX1_recordChecks_52 : decode cX1_recordChecks 52 = .ok (.iload_n 2, 1) := by decide +kernel
theorem dX1_recordChecks_53 : decode cX1_recordChecks 53 = .ok (.putfield 94, 3) := by decide +kernel
theorem dX1_recordChecks_56 : decode cX1_recordChecks 56 = .ok (.iinc 3 1, 3) := by decide +kernel
theorem dX1_recordChecks_59 : decode cX1_recordChecks 59 = .ok (.iinc 4 1, 3) := by decide +kernel
theorem dX1_recordChecks_62 : decode cX1_recordChecks 62 = .ok (.goto (-57), 3) := by decide +kernel
theorem dX1_recordChecks_65 : decode cX1_recordChecks 65 = .ok (.iload_n 3, 1) := by decide +kernel
theorem dX1_recordChecks_66 : decode cX1_recordChecks 66 = .ok (.ireturn, 1) := by decide +kernel
theorem dX2_init_0 : decode cX2_init 0 = .ok (.aload_n 0, 1) := by decide +kernel
theorem dX2_init_1 : decode cX2_init 1 = .ok (.invokespecial 3, 3) := by decide +kernel
theorem dX2_init_4 : decode cX2_init 4 = .ok (.aload_n 0, 1) := by decide +kernel
theorem dX2_init_5 : decode cX2_init 5 = .ok (.bipush 8, 2) := by decide +kernel
theorem dX2_init_7 : decode cX2_init 7 = .ok (.newarray .int, 2) := by decide +kernel
theorem dX2_init_9 : decode cX2_init 9 = .ok (.putfield 9, 3) := by decide +kernel
theorem dX2_init_12 : decode cX2_init 12 = .ok (.aload_n 0, 1) := by decide +kernel
theorem dX2_init_13 : decode cX2_init 13 = .ok (.bipush 8, 2) := by decide +kernel
theorem dX2_init_15 : decode cX2_init 15 = .ok (.newarray .int, 2) := by decide +kernel
theorem dX2_init_17 : decode cX2_init 17 = .ok (.putfield 15, 3) := by decide +kernel
theorem dX2_init_20 : decode cX2_init 20 = .ok (.aload_n 0, 1) := by decide +kernel
theorem dX2_init_21 : decode cX2_init 21 = .ok (.iconst 0, 1) := by decide +kernel
theorem dX2_init_22 : decode cX2_init 22 = .ok (.putfield 18, 3) := by decide +kernel
theorem dX2_init_25 : decode cX2_init 25 = .ok (.return_, 1) := by decide +kernel
theorem dX2_append_0 : decode cX2_append 0 = .ok (.aload_n 0, 1) := by decide +kernel
theorem dX2_append_1 : decode cX2_append 1 = .ok (.getfield 18, 3) := by decide +kernel
theorem dX2_append_4 : decode cX2_append 4 = .ok (.iconst 1, 1) := by decide +kernel
theorem dX2_append_5 : decode cX2_append 5 = .ok (.isub, 1) := by decide +kernel
theorem dX2_append_6 : decode cX2_append 6 = .ok (.istore_n 3, 1) := by decide +kernel
theorem dX2_append_7 : decode cX2_append 7 = .ok (.iload_n 3, 1) := by decide +kernel
theorem dX2_append_8 : decode cX2_append 8 = .ok (.ifCond .lt 22, 3) := by decide +kernel
theorem dX2_append_11 : decode cX2_append 11 = .ok (.iload_n 3, 1) := by decide +kernel
theorem dX2_append_12 : decode cX2_append 12 = .ok (.bipush 8, 2) := by decide +kernel
theorem dX2_append_14 : decode cX2_append 14 = .ok (.if_icmp .ge 16, 3) := by decide +kernel
theorem dX2_append_17 : decode cX2_append 17 = .ok (.iload_n 1, 1) := by decide +kernel
theorem dX2_append_18 : decode cX2_append 18 = .ok (.aload_n 0, 1) := by decide +kernel
theorem dX2_append_19 : decode cX2_append 19 = .ok (.getfield 9, 3) := by decide +kernel
theorem dX2_append_22 : decode cX2_append 22 = .ok (.iload_n 3, 1) := by decide +kernel
theorem dX2_append_23 : decode cX2_append 23 = .ok (.iaload, 1) := by decide +kernel
theorem dX2_append_24 : decode cX2_append 24 = .ok (.if_icmp .lt 6, 3) := by decide +kernel
theorem dX2_append_27 : decode cX2_append 27 = .ok (.ldc 22, 2) := by decide +kernel
theorem dX2_append_29 : decode cX2_append 29 = .ok (.ireturn, 1) := by decide +kernel
theorem dX2_append_30 : decode cX2_append 30 = .ok (.aload_n 0, 1) := by decide +kernel
theorem dX2_append_31 : decode cX2_append 31 = .ok (.getfield 18, 3) := by decide +kernel
theorem dX2_append_34 : decode cX2_append 34 = .ok (.istore 4, 2) := by decide +kernel
theorem dX2_append_36 : decode cX2_append 36 = .ok (.iload 4, 2) := by decide +kernel
theorem dX2_append_38 : decode cX2_append 38 = .ok (.ifCond .lt 10, 3) := by decide +kernel
theorem dX2_append_41 : decode cX2_append 41 = .ok (.iload 4, 2) := by decide +kernel
theorem dX2_append_43 : decode cX2_append 43 = .ok (.bipush 8, 2) := by decide +kernel
theorem dX2_append_45 : decode cX2_append 45 = .ok (.if_icmp .lt 6, 3) := by decide +kernel
theorem dX2_append_48 : decode cX2_append 48 = .ok (.ldc 23, 2) := by decide +kernel
theorem dX2_append_50 : decode cX2_append 50 = .ok (.ireturn, 1) := by decide +kernel
theorem dX2_append_51 : decode cX2_append 51 = .ok (.aload_n 0, 1) := by decide +kernel
theorem dX2_append_52 : decode cX2_append 52 = .ok (.getfield 9, 3) := by decide +kernel
theorem dX2_append_55 : decode cX2_append 55 = .ok (.iload 4, 2) := by decide +kernel
theorem dX2_append_57 : decode cX2_append 57 = .ok (.iload_n 1, 1) := by decide +kernel
theorem dX2_append_58 : decode cX2_append 58 = .ok (.iastore, 1) := by decide +kernel
theorem dX2_append_59 : decode cX2_append 59 = .ok (.aload_n 0, 1) := by decide +kernel
theorem dX2_append_60 : decode cX2_append 60 = .ok (.getfield 15, 3) := by decide +kernel
theorem dX2_append_63 : decode cX2_append 63 = .ok (.iload 4, 2) := by decide +kernel
theorem dX2_append_65 : decode cX2_append 65 = .ok (.iload_n 2, 1) := by decide +kernel
theorem dX2_append_66 : decode cX2_append 66 = .ok (.iastore, 1) := by decide +kernel
theorem dX2_append_67 : decode cX2_append 67 = .ok (.aload_n 0, 1) := by decide +kernel
theorem dX2_append_68 : decode cX2_append 68 = .ok (.dup, 1) := by decide +kernel
theorem dX2_append_69 : decode cX2_append 69 = .ok (.getfield 18, 3) := by decide +kernel
theorem dX2_append_72 : decode cX2_append 72 = .ok (.iconst 1, 1) := by decide +kernel
theorem dX2_append_73 : decode cX2_append 73 = .ok (.iadd, 1) := by decide +kernel
theorem dX2_append_74 : decode cX2_append 74 = .ok (.putfield 18, 3) := by decide +kernel
theorem dX2_append_77 : decode cX2_append 77 = .ok (.iload 4, 2) := by decide +kernel
theorem dX2_append_79 : decode cX2_append 79 = .ok (.ireturn, 1) := by decide +kernel
theorem dX2_clear_0 : decode cX2_clear 0 = .ok (.aload_n 0, 1) := by decide +kernel
theorem dX2_clear_1 : decode cX2_clear 1 = .ok (.getfield 18, 3) := by decide +kernel
theorem dX2_clear_4 : decode cX2_clear 4 = .ok (.istore_n 1, 1) := by decide +kernel
theorem dX2_clear_5 : decode cX2_clear 5 = .ok (.aload_n 0, 1) := by decide +kernel
theorem dX2_clear_6 : decode cX2_clear 6 = .ok (.iconst 0, 1) := by decide +kernel
theorem dX2_clear_7 : decode cX2_clear 7 = .ok (.putfield 18, 3) := by decide +kernel
theorem dX2_clear_10 : decode cX2_clear 10 = .ok (.iload_n 1, 1) := by decide +kernel
theorem dX2_clear_11 : decode cX2_clear 11 = .ok (.ireturn, 1) := by decide +kernel
theorem dX2_stageFor_0 : decode cX2_stageFor 0 = .ok (.ldc 24, 2) := by decide +kernel
theorem dX2_stageFor_2 : decode cX2_stageFor 2 = .ok (.istore_n 2, 1) := by decide +kernel
theorem dX2_stageFor_3 : decode cX2_stageFor 3 = .ok (.iconst 0, 1) := by decide +kernel
theorem dX2_stageFor_4 : decode cX2_stageFor 4 = .ok (.istore_n 3, 1) := by decide +kernel
theorem dX2_stageFor_5 : decode cX2_stageFor 5 = .ok (.iload_n 3, 1) := by decide +kernel
theorem dX2_stageFor_6 : decode cX2_stageFor 6 = .ok (.aload_n 0, 1) := by decide +kernel
theorem dX2_stageFor_7 : decode cX2_stageFor 7 = .ok (.getfield 18, 3) := by decide +kernel
theorem dX2_stageFor_10 : decode cX2_stageFor 10 = .ok (.if_icmp .ge 27, 3) := by decide +kernel
theorem dX2_stageFor_13 : decode cX2_stageFor 13 = .ok (.iload_n 3, 1) := by decide +kernel
theorem dX2_stageFor_14 : decode cX2_stageFor 14 = .ok (.bipush 8, 2) := by decide +kernel
theorem dX2_stageFor_16 : decode cX2_stageFor 16 = .ok (.if_icmp .ge 21, 3) := by decide +kernel
theorem dX2_stageFor_19 : decode cX2_stageFor 19 = .ok (.aload_n 0, 1) := by decide +kernel
theorem dX2_stageFor_20 : decode cX2_stageFor 20 = .ok (.getfield 9, 3) := by decide +kernel
theorem dX2_stageFor_23 : decode cX2_stageFor 23 = .ok (.iload_n 3, 1) := by decide +kernel
theorem dX2_stageFor_24 : decode cX2_stageFor 24 = .ok (.iaload, 1) := by decide +kernel
theorem dX2_stageFor_25 : decode cX2_stageFor 25 = .ok (.iload_n 1, 1) := by decide +kernel
theorem dX2_stageFor_26 : decode cX2_stageFor 26 = .ok (.if_icmp .lt 5, 3) := by decide +kernel
theorem dX2_stageFor_29 : decode cX2_stageFor 29 = .ok (.iload_n 3, 1) := by decide +kernel
theorem dX2_stageFor_30 : decode cX2_stageFor 30 = .ok (.istore_n 2, 1) := by decide +kernel
theorem dX2_stageFor_31 : decode cX2_stageFor 31 = .ok (.iinc 3 1, 3) := by decide +kernel
theorem dX2_stageFor_34 : decode cX2_stageFor 34 = .ok (.goto (-29), 3) := by decide +kernel
theorem dX2_stageFor_37 : decode cX2_stageFor 37 = .ok (.iload_n 2, 1) := by decide +kernel
theorem dX2_stageFor_38 : decode cX2_stageFor 38 = .ok (.ireturn, 1) := by decide +kernel
theorem dX2_inletOf_0 : decode cX2_inletOf 0 = .ok (.iload_n 1, 1) := by decide +kernel
theorem dX2_inletOf_1 : decode cX2_inletOf 1 = .ok (.ifCond .lt 18, 3) := by decide +kernel
theorem dX2_inletOf_4 : decode cX2_inletOf 4 = .ok (.iload_n 1, 1) := by decide +kernel
theorem dX2_inletOf_5 : decode cX2_inletOf 5 = .ok (.bipush 8, 2) := by decide +kernel
theorem dX2_inletOf_7 : decode cX2_inletOf 7 = .ok (.if_icmp .ge 12, 3) := by decide +kernel
theorem dX2_inletOf_10 : decode cX2_inletOf 10 = .ok (.aload_n 0, 1) := by decide +kernel
theorem dX2_inletOf_11 : decode cX2_inletOf 11 = .ok (.getfield 15, 3) := by decide +kernel
theorem dX2_inletOf_14 : decode cX2_inletOf 14 = .ok (.iload_n 1, 1) := by decide +kernel
theorem dX2_inletOf_15 : decode cX2_inletOf 15 = .ok (.iaload, 1) := by decide +kernel
theorem dX2_inletOf_16 : decode cX2_inletOf 16 = .ok (.goto 4, 3) := by decide +kernel
theorem dX2_inletOf_19 : decode cX2_inletOf 19 = .ok (.iload_n 2, 1) := by decide +kernel
theorem dX2_inletOf_20 : decode cX2_inletOf 20 = .ok (.ireturn, 1) := by decide +kernel
theorem dX3_init_0 : decode cX3_init 0 = .ok (.aload_n 0, 1) := by decide +kernel
theorem dX3_init_1 : decode cX3_init 1 = .ok (.invokespecial 1, 3) := by decide +kernel
theorem dX3_init_4 : decode cX3_init 4 = .ok (.aload_n 0, 1) := by decide +kernel
theorem dX3_init_5 : decode cX3_init 5 = .ok (.bipush 100, 2) := by decide +kernel
theorem dX3_init_7 : decode cX3_init 7 = .ok (.putfield 7, 3) := by decide +kernel
theorem dX3_init_10 : decode cX3_init 10 = .ok (.aload_n 0, 1) := by decide +kernel
theorem dX3_init_11 : decode cX3_init 11 = .ok (.sipush 200, 3) := by decide +kernel
theorem dX3_init_14 : decode cX3_init 14 = .ok (.putfield 13, 3) := by decide +kernel
theorem dX3_init_17 : decode cX3_init 17 = .ok (.aload_n 0, 1) := by decide +kernel
theorem dX3_init_18 : decode cX3_init 18 = .ok (.bipush 50, 2) := by decide +kernel
theorem dX3_init_20 : decode cX3_init 20 = .ok (.putfield 16, 3) := by decide +kernel
theorem dX3_init_23 : decode cX3_init 23 = .ok (.aload_n 0, 1) := by decide +kernel
theorem dX3_init_24 : decode cX3_init 24 = .ok (.sipush 200, 3) := by decide +kernel
theorem dX3_init_27 : decode cX3_init 27 = .ok (.putfield 19, 3) := by decide +kernel
theorem dX3_init_30 : decode cX3_init 30 = .ok (.aload_n 0, 1) := by decide +kernel
theorem dX3_init_31 : decode cX3_init 31 = .ok (.bipush 120, 2) := by decide +kernel
theorem dX3_init_33 : decode cX3_init 33 = .ok (.putfield 22, 3) := by decide +kernel
theorem dX3_init_36 : decode cX3_init 36 = .ok (.aload_n 0, 1) := by decide +kernel
theorem dX3_init_37 : decode cX3_init 37 = .ok (.iconst 0, 1) := by decide +kernel
theorem dX3_init_38 : decode cX3_init 38 = .ok (.putfield 25, 3) := by decide +kernel
theorem dX3_init_41 : decode cX3_init 41 = .ok (.return_, 1) := by decide +kernel
set_option maxRecDepth 20000 in
theorem ggX4_init_X3_init : GoodIn wsX4_init wsX3_init := goodIn_r _ [23, 24, 2, 3, 25, 26, 27, 28, 29, 30, 61, 62, 63, 64, 65, 66] (by decide +kernel) (by decide +kernel)
set_option maxRecDepth 20000 in
theorem gX4_init_X3_init_n9 : GoodIn wsX4_init (wsX3_init) := ggX4_init_X3_init
set_option maxRecDepth 20000 in
theorem ggX4_init_X2_init : GoodIn wsX4_init wsX2_init := goodIn_r _ [32, 33, 2, 3, 18, 34, 35, 36, 75, 76, 77] (by decide +kernel) (by decide +kernel)
set_option maxRecDepth 20000 in
theorem gX4_init_X2_init_n18 : GoodIn wsX4_init (wsX2_init) := ggX4_init_X2_init
set_option maxRecDepth 20000 in
theorem ggX4_init_X1_init : GoodIn wsX4_init wsX1_init := goodIn_r _ [38, 39, 2, 3, 40, 41, 42, 43, 44, 45, 46, 47, 48, 49, 50, 51, 52, 53, 54, 55, 56, 57, 58, 59, 60, 78, 79, 80, 81, 82, 83] (by decide +kernel) (by decide +kernel)
set_option maxRecDepth 20000 in
theorem gX4_init_X1_init_n25 : GoodIn wsX4_init (wsX1_init) := ggX4_init_X1_init
theorem dX4_init_0 : decode cX4_init 0 = .ok (.aload_n 0, 1) := by decide +kernel
theorem dX4_init_1 : decode cX4_init 1 = .ok (.invokespecial 1, 3) := by decide +kernel
theorem dX4_init_4 : decode cX4_init 4 = .ok (.aload_n 0, 1) := by decide +kernel
theorem dX4_init_5 : decode cX4_init 5 = .ok (.new 7, 3) := by decide +kernel
theorem dX4_init_8 : decode cX4_init 8 = .ok (.dup, 1) := by decide +kernel
theorem dX4_init_9 : decode cX4_init 9 = .ok (.invokespecial 9, 3) := by decide +kernel
theorem dX4_init_12 : decode cX4_init 12 = .ok (.putfield 10, 3) := by decide +kernel
theorem dX4_init_15 : decode cX4_init 15 = .ok (.aload_n 0, 1) := by decide +kernel
theorem dX4_init_16 : decode cX4_init 16 = .ok (.new 16, 3) := by decide +kernel
theorem dX4_init_19 : decode cX4_init 19 = .ok (.dup, 1) := by decide +kernel
theorem dX4_init_20 : decode cX4_init 20 = .ok (.invokespecial 18, 3) := by decide +kernel
theorem dX4_init_23 : decode cX4_init 23 = .ok (.putfield 19, 3) := by decide +kernel
theorem dX4_init_26 : decode cX4_init 26 = .ok (.aload_n 0, 1) := by decide +kernel
theorem dX4_init_27 : decode cX4_init 27 = .ok (.new 23, 3) := by decide +kernel
theorem dX4_init_30 : decode cX4_init 30 = .ok (.dup, 1) := by decide +kernel
theorem dX4_init_31 : decode cX4_init 31 = .ok (.invokespecial 25, 3) := by decide +kernel
theorem dX4_init_34 : decode cX4_init 34 = .ok (.putfield 26, 3) := by decide +kernel
theorem dX4_init_37 : decode cX4_init 37 = .ok (.aload_n 0, 1) := by decide +kernel
theorem dX4_init_38 : decode cX4_init 38 = .ok (.new 23, 3) := by decide +kernel
theorem dX4_init_41 : decode cX4_init 41 = .ok (.dup, 1) := by decide +kernel
theorem dX4_init_42 : decode cX4_init 42 = .ok (.invokespecial 25, 3) := by decide +kernel
theorem dX4_init_45 : decode cX4_init 45 = .ok (.putfield 30, 3) := by decide +kernel
theorem dX4_init_48 : decode cX4_init 48 = .ok (.aload_n 0, 1) := by decide +kernel
theorem dX4_init_49 : decode cX4_init 49 = .ok (.new 23, 3) := by decide +kernel
theorem dX4_init_52 : decode cX4_init 52 = .ok (.dup, 1) := by decide +kernel
theorem dX4_init_53 : decode cX4_init 53 = .ok (.invokespecial 25, 3) := by decide +kernel
theorem dX4_init_56 : decode cX4_init 56 = .ok (.putfield 33, 3) := by decide +kernel
theorem dX4_init_59 : decode cX4_init 59 = .ok (.aload_n 0, 1) := by decide +kernel
theorem dX4_init_60 : decode cX4_init 60 = .ok (.sipush 300, 3) := by decide +kernel
theorem dX4_init_63 : decode cX4_init 63 = .ok (.newarray .int, 2) := by decide +kernel
theorem dX4_init_65 : decode cX4_init 65 = .ok (.putfield 36, 3) := by decide +kernel
theorem dX4_init_68 : decode cX4_init 68 = .ok (.aload_n 0, 1) := by decide +kernel
theorem dX4_init_69 : decode cX4_init 69 = .ok (.iconst 0, 1) := by decide +kernel
theorem dX4_init_70 : decode cX4_init 70 = .ok (.putfield 40, 3) := by decide +kernel
theorem dX4_init_73 : decode cX4_init 73 = .ok (.aload_n 0, 1) := by decide +kernel
theorem dX4_init_74 : decode cX4_init 74 = .ok (.iconst 0, 1) := by decide +kernel
theorem dX4_init_75 : decode cX4_init 75 = .ok (.putfield 44, 3) := by decide +kernel
theorem dX4_init_78 : decode cX4_init 78 = .ok (.return_, 1) := by decide +kernel
set_option maxRecDepth 20000 in
theorem ggX4_addBoard_X4_isOutside : GoodIn wsX4_addBoard wsX4_isOutside := goodIn_r _ [12] (by decide +kernel) (by decide +kernel)
set_option maxRecDepth 20000 in
theorem gX4_addBoard_X4_isOutside : GoodIn wsX4_addBoard (va_wsS RX4 47 yX4_isOutside wsX4_isOutside) := goodIn_app (goodIn_of _ (by decide +kernel)) ggX4_addBoard_X4_isOutside
set_option maxRecDepth 20000 in
theorem ggX4_addBoard_X1_size : GoodIn wsX4_addBoard wsX1_size := goodIn_r _ [17, 18, 19, 20, 21, 22, 23, 24, 108, 109, 110, 111, 112, 113] (by decide +kernel) (by decide +kernel)
set_option maxRecDepth 20000 in
theorem gX4_addBoard_X1_size : GoodIn wsX4_addBoard (wsV RX4 52 RX1 yX1_size wsX1_size) := goodIn_app (goodIn_of _ (by decide +kernel)) ggX4_addBoard_X1_size
set_option maxRecDepth 20000 in
theorem ggX4_addBoard_X0_init : GoodIn wsX4_addBoard wsX0_init := goodIn_r _ [27, 28, 29, 30, 31, 32, 33, 34, 35, 36, 37, 38, 39, 105, 106, 107] (by decide +kernel) (by decide +kernel)
set_option maxRecDepth 20000 in
theorem gX4_addBoard_X0_init : GoodIn wsX4_addBoard (wsX0_init) := ggX4_addBoard_X0_init
set_option maxRecDepth 20000 in
theorem ggX4_addBoard_X1_put : GoodIn wsX4_addBoard wsX1_put := goodIn_r _ [43, 18, 44, 45, 46, 22, 47, 48, 49, 50, 24, 51, 52, 53, 54, 55, 56, 57, 58, 59, 60, 61, 62, 63, 64, 65, 66, 67, 68, 69, 70, 71, 72, 73, 74, 75, 76, 77, 78, 79, 38, 80, 81, 82, 83, 84, 85, 86, 87, 88, 89, 90, 91, 92, 93, 94, 95, 96, 108, 109, 110, 111, 112, 113] (by decide +kernel) (by decide +kernel)
set_option maxRecDepth 20000 in
theorem gX4_addBoard_X1_put : GoodIn wsX4_addBoard (wsV RX4 62 RX1 yX1_put wsX1_put) := goodIn_app (goodIn_of _ (by decide +kernel)) ggX4_addBoard_X1_put
theorem dX4_addBoard_0 : decode cX4_addBoard 0 = .ok (.iload_n 1, 1) := by decide +kernel
theorem dX4_addBoard_1 : decode cX4_addBoard 1 = .ok (.iconst 3, 1) := by decide +kernel
theorem dX4_addBoard_2 : decode cX4_addBoard 2 = .ok (.bipush 9, 2) := by decide +kernel
theorem dX4_addBoard_4 : decode cX4_addBoard 4 = .ok (.invokestatic 47, 3) := by decide +kernel
theorem dX4_addBoard_7 : decode cX4_addBoard 7 = .ok (.ifCond .ne 14, 3) := by decide +kernel
theorem dX4_addBoard_10 : decode cX4_addBoard 10 = .ok (.iload_n 2, 1) := by decide +kernel
theorem dX4_addBoard_11 : decode cX4_addBoard 11 = .ok (.iconst 0, 1) := by decide +kernel
theorem dX4_addBoard_12 : decode cX4_addBoard 12 = .ok (.sipush 2000, 3) := by decide +kernel
theorem dX4_addBoard_15 : decode cX4_addBoard 15 = .ok (.invokestatic 47, 3) := by decide +kernel
theorem dX4_addBoard_18 : decode cX4_addBoard 18 = .ok (.ifCond .eq 6, 3) := by decide +kernel
theorem dX4_addBoard_21 : decode cX4_addBoard 21 = .ok (.ldc 51, 2) := by decide +kernel
theorem dX4_addBoard_23 : decode cX4_addBoard 23 = .ok (.ireturn, 1) := by decide +kernel
theorem dX4_addBoard_24 : decode cX4_addBoard 24 = .ok (.aload_n 0, 1) := by decide +kernel
theorem dX4_addBoard_25 : decode cX4_addBoard 25 = .ok (.getfield 26, 3) := by decide +kernel
theorem dX4_addBoard_28 : decode cX4_addBoard 28 = .ok (.invokevirtual 52, 3) := by decide +kernel
theorem dX4_addBoard_31 : decode cX4_addBoard 31 = .ok (.istore_n 3, 1) := by decide +kernel
theorem dX4_addBoard_32 : decode cX4_addBoard 32 = .ok (.iload_n 3, 1) := by decide +kernel
theorem dX4_addBoard_33 : decode cX4_addBoard 33 = .ok (.bipush 6, 2) := by decide +kernel
theorem dX4_addBoard_35 : decode cX4_addBoard 35 = .ok (.if_icmp .lt 6, 3) := by decide +kernel
theorem dX4_addBoard_38 : decode cX4_addBoard 38 = .ok (.ldc 56, 2) := by decide +kernel
theorem dX4_addBoard_40 : decode cX4_addBoard 40 = .ok (.ireturn, 1) := by decide +kernel
theorem dX4_addBoard_41 : decode cX4_addBoard 41 = .ok (.aload_n 0, 1) := by decide +kernel
theorem dX4_addBoard_42 : decode cX4_addBoard 42 = .ok (.getfield 26, 3) := by decide +kernel
theorem dX4_addBoard_45 : decode cX4_addBoard 45 = .ok (.new 57, 3) := by decide +kernel
theorem dX4_addBoard_48 : decode cX4_addBoard 48 = .ok (.dup, 1) := by decide +kernel
theorem dX4_addBoard_49 : decode cX4_addBoard 49 = .ok (.iload_n 1, 1) := by decide +kernel
theorem dX4_addBoard_50 : decode cX4_addBoard 50 = .ok (.iload_n 2, 1) := by decide +kernel
theorem dX4_addBoard_51 : decode cX4_addBoard 51 = .ok (.invokespecial 59, 3) := by decide +kernel
theorem dX4_addBoard_54 : decode cX4_addBoard 54 = .ok (.invokevirtual 62, 3) := by decide +kernel
theorem dX4_addBoard_57 : decode cX4_addBoard 57 = .ok (.aload_n 0, 1) := by decide +kernel
theorem dX4_addBoard_58 : decode cX4_addBoard 58 = .ok (.getfield 30, 3) := by decide +kernel
theorem dX4_addBoard_61 : decode cX4_addBoard 61 = .ok (.new 57, 3) := by decide +kernel
theorem dX4_addBoard_64 : decode cX4_addBoard 64 = .ok (.dup, 1) := by decide +kernel
theorem dX4_addBoard_65 : decode cX4_addBoard 65 = .ok (.iload_n 1, 1) := by decide +kernel
theorem dX4_addBoard_66 : decode cX4_addBoard 66 = .ok (.iload_n 2, 1) := by decide +kernel
theorem dX4_addBoard_67 : decode cX4_addBoard 67 = .ok (.invokespecial 59, 3) := by decide +kernel
theorem dX4_addBoard_70 : decode cX4_addBoard 70 = .ok (.invokevirtual 62, 3) := by decide +kernel
theorem dX4_addBoard_73 : decode cX4_addBoard 73 = .ok (.aload_n 0, 1) := by decide +kernel
theorem dX4_addBoard_74 : decode cX4_addBoard 74 = .ok (.getfield 33, 3) := by decide +kernel
theorem dX4_addBoard_77 : decode cX4_addBoard 77 = .ok (.new 57, 3) := by decide +kernel
theorem dX4_addBoard_80 : decode cX4_addBoard 80 = .ok (.dup, 1) := by decide +kernel
theorem dX4_addBoard_81 : decode cX4_addBoard 81 = .ok (.iload_n 1, 1) := by decide +kernel
theorem dX4_addBoard_82 : decode cX4_addBoard 82 = .ok (.iload_n 2, 1) := by decide +kernel
theorem dX4_addBoard_83 : decode cX4_addBoard 83 = .ok (.invokespecial 59, 3) := by decide +kernel
theorem dX4_addBoard_86 : decode cX4_addBoard 86 = .ok (.invokevirtual 62, 3) := by decide +kernel
theorem dX4_addBoard_89 : decode cX4_addBoard 89 = .ok (.iload_n 3, 1) := by decide +kernel
theorem dX4_addBoard_90 : decode cX4_addBoard 90 = .ok (.ireturn, 1) := by decide +kernel
set_option maxRecDepth 20000 in
theorem ggX4_setLayer_X1_has : GoodIn wsX4_setLayer wsX1_has := goodIn_r _ [10, 11, 12, 13, 14, 15, 16, 17, 55, 56, 57, 58, 59, 60] (by decide +kernel) (by decide +kernel)
set_option maxRecDepth 20000 in
theorem gX4_setLayer_X1_has : GoodIn wsX4_setLayer (wsV RX4 66 RX1 yX1_has wsX1_has) := goodIn_app (goodIn_of _ (by decide +kernel)) ggX4_setLayer_X1_has
set_option maxRecDepth 20000 in
theorem ggX4_setLayer_X1_boardAt : GoodIn wsX4_setLayer wsX1_boardAt := goodIn_r _ [21, 11, 22, 23, 24, 25, 15, 26, 17, 27, 28, 29, 30, 31, 32, 33, 34, 35, 36, 37, 38, 39, 55, 56, 57, 58, 59, 60] (by decide +kernel) (by decide +kernel)
set_option maxRecDepth 20000 in
theorem gX4_setLayer_X1_boardAt : GoodIn wsX4_setLayer (wsV RX4 71 RX1 yX1_boardAt wsX1_boardAt) := goodIn_app (goodIn_of _ (by decide +kernel)) ggX4_setLayer_X1_boardAt
set_option maxRecDepth 20000 in
theorem ggX4_setLayer_X4_isOutside : GoodIn wsX4_setLayer wsX4_isOutside := goodIn_r _ [43] (by decide +kernel) (by decide +kernel)
set_option maxRecDepth 20000 in
theorem gX4_setLayer_X4_isOutside : GoodIn wsX4_setLayer (va_wsS RX4 47 yX4_isOutside wsX4_isOutside) := goodIn_app (goodIn_of _ (by decide +kernel)) ggX4_setLayer_X4_isOutside
theorem dX4_setLayer_0 : decode cX4_setLayer 0 = .ok (.aload_n 0, 1) := by decide +kernel
theorem dX4_setLayer_1 : decode cX4_setLayer 1 = .ok (.getfield 26, 3) := by decide +kernel
theorem dX4_setLayer_4 : decode cX4_setLayer 4 = .ok (.iload_n 1, 1) := by decide +kernel
theorem dX4_setLayer_5 : decode cX4_setLayer 5 = .ok (.invokevirtual 66, 3) := by decide +kernel
theorem dX4_setLayer_8 : decode cX4_setLayer 8 = .ok (.ifCond .ne 6, 3) := by decide +kernel
theorem dX4_setLayer_11 : decode cX4_setLayer 11 = .ok (.ldc 70, 2) := by decide +kernel
theorem dX4_setLayer_13 : decode cX4_setLayer 13 = .ok (.ireturn, 1) := by decide +kernel
theorem dX4_setLayer_14 : decode cX4_setLayer 14 = .ok (.aload_n 0, 1) := by decide +kernel
theorem dX4_setLayer_15 : decode cX4_setLayer 15 = .ok (.getfield 26, 3) := by decide +kernel
theorem dX4_setLayer_18 : decode cX4_setLayer 18 = .ok (.iload_n 1, 1) := by decide +kernel
theorem dX4_setLayer_19 : decode cX4_setLayer 19 = .ok (.invokevirtual 71, 3) := by decide +kernel
theorem dX4_setLayer_22 : decode cX4_setLayer 22 = .ok (.getfield 75, 3) := by decide +kernel
theorem dX4_setLayer_25 : decode cX4_setLayer 25 = .ok (.astore 4, 2) := by decide +kernel
theorem dX4_setLayer_27 : decode cX4_setLayer 27 = .ok (.iload_n 2, 1) := by decide +kernel
theorem dX4_setLayer_28 : decode cX4_setLayer 28 = .ok (.ifCond .lt 10, 3) := by decide +kernel
theorem dX4_setLayer_31 : decode cX4_setLayer 31 = .ok (.iload_n 2, 1) := by decide +kernel
theorem dX4_setLayer_32 : decode cX4_setLayer 32 = .ok (.aload 4, 2) := by decide +kernel
theorem dX4_setLayer_34 : decode cX4_setLayer 34 = .ok (.arraylength, 1) := by decide +kernel
theorem dX4_setLayer_35 : decode cX4_setLayer 35 = .ok (.if_icmp .lt 6, 3) := by decide +kernel
theorem dX4_setLayer_38 : decode cX4_setLayer 38 = .ok (.ldc 78, 2) := by decide +kernel
theorem dX4_setLayer_40 : decode cX4_setLayer 40 = .ok (.ireturn, 1) := by decide +kernel
theorem dX4_setLayer_41 : decode cX4_setLayer 41 = .ok (.iload_n 3, 1) := by decide +kernel
theorem dX4_setLayer_42 : decode cX4_setLayer 42 = .ok (.iconst 0, 1) := by decide +kernel
theorem dX4_setLayer_43 : decode cX4_setLayer 43 = .ok (.sipush 2000, 3) := by decide +kernel
theorem dX4_setLayer_46 : decode cX4_setLayer 46 = .ok (.invokestatic 47, 3) := by decide +kernel
theorem dX4_setLayer_49 : decode cX4_setLayer 49 = .ok (.ifCond .eq 6, 3) := by decide +kernel
theorem dX4_setLayer_52 : decode cX4_setLayer 52 = .ok (.ldc 51, 2) := by decide +kernel
theorem dX4_setLayer_54 : decode cX4_setLayer 54 = .ok (.ireturn, 1) := by decide +kernel
theorem dX4_setLayer_55 : decode cX4_setLayer 55 = .ok (.aload 4, 2) := by decide +kernel
theorem dX4_setLayer_57 : decode cX4_setLayer 57 = .ok (.iload_n 2, 1) := by decide +kernel
theorem dX4_setLayer_58 : decode cX4_setLayer 58 = .ok (.iaload, 1) := by decide +kernel
theorem dX4_setLayer_59 : decode cX4_setLayer 59 = .ok (.istore 5, 2) := by decide +kernel
theorem dX4_setLayer_61 : decode cX4_setLayer 61 = .ok (.aload 4, 2) := by decide +kernel
theorem dX4_setLayer_63 : decode cX4_setLayer 63 = .ok (.iload_n 2, 1) := by decide +kernel
theorem dX4_setLayer_64 : decode cX4_setLayer 64 = .ok (.iload_n 3, 1) := by decide +kernel
theorem dX4_setLayer_65 : decode cX4_setLayer 65 = .ok (.iastore, 1) := by decide +kernel
theorem dX4_setLayer_66 : decode cX4_setLayer 66 = .ok (.iload 5, 2) := by decide +kernel
theorem dX4_setLayer_68 : decode cX4_setLayer 68 = .ok (.ireturn, 1) := by decide +kernel
set_option maxRecDepth 20000 in
theorem ggX4_layerMoisture_X1_has : GoodIn wsX4_layerMoisture wsX1_has := goodIn_r _ [9, 10, 11, 12, 13, 14, 15, 16, 50, 51, 52, 53, 54, 55] (by decide +kernel) (by decide +kernel)
set_option maxRecDepth 20000 in
theorem gX4_layerMoisture_X1_has : GoodIn wsX4_layerMoisture (wsV RX4 66 RX1 yX1_has wsX1_has) := goodIn_app (goodIn_of _ (by decide +kernel)) ggX4_layerMoisture_X1_has
set_option maxRecDepth 20000 in
theorem ggX4_layerMoisture_X1_boardAt : GoodIn wsX4_layerMoisture wsX1_boardAt := goodIn_r _ [20, 10, 21, 22, 23, 24, 14, 25, 16, 26, 27, 28, 29, 30, 31, 32, 33, 34, 35, 36, 37, 38, 50, 51, 52, 53, 54, 55] (by decide +kernel) (by decide +kernel)
set_option maxRecDepth 20000 in
theorem gX4_layerMoisture_X1_boardAt : GoodIn wsX4_layerMoisture (wsV RX4 71 RX1 yX1_boardAt wsX1_boardAt) := goodIn_app (goodIn_of _ (by decide +kernel)) ggX4_layerMoisture_X1_boardAt
theorem dX4_layerMoisture_0 : decode cX4_layerMoisture 0 = .ok (.aload_n 0, 1) := by decide +kernel
theorem dX4_layerMoisture_1 : decode cX4_layerMoisture 1 = .ok (.getfield 26, 3) := by decide +kernel
theorem dX4_layerMoisture_4 : decode cX4_layerMoisture 4 = .ok (.iload_n 1, 1) := by decide +kernel
theorem dX4_layerMoisture_5 : decode cX4_layerMoisture 5 = .ok (.invokevirtual 66, 3) := by decide +kernel
theorem dX4_layerMoisture_8 : decode cX4_layerMoisture 8 = .ok (.ifCond .ne 6, 3) := by decide +kernel
theorem dX4_layerMoisture_11 : decode cX4_layerMoisture 11 = .ok (.ldc 70, 2) := by decide +kernel
theorem dX4_layerMoisture_13 : decode cX4_layerMoisture 13 = .ok (.ireturn, 1) := by decide +kernel
theorem dX4_layerMoisture_14 : decode cX4_layerMoisture 14 = .ok (.aload_n 0, 1) := by decide +kernel
theorem dX4_layerMoisture_15 : decode cX4_layerMoisture 15 = .ok (.getfield 26, 3) := by decide +kernel
theorem dX4_layerMoisture_18 : decode cX4_layerMoisture 18 = .ok (.iload_n 1, 1) := by decide +kernel
theorem dX4_layerMoisture_19 : decode cX4_layerMoisture 19 = .ok (.invokevirtual 71, 3) := by decide +kernel
theorem dX4_layerMoisture_22 : decode cX4_layerMoisture 22 = .ok (.getfield 75, 3) := by decide +kernel
theorem dX4_layerMoisture_25 : decode cX4_layerMoisture 25 = .ok (.astore_n 3, 1) := by decide +kernel
theorem dX4_layerMoisture_26 : decode cX4_layerMoisture 26 = .ok (.iload_n 2, 1) := by decide +kernel
theorem dX4_layerMoisture_27 : decode cX4_layerMoisture 27 = .ok (.ifCond .lt 15, 3) := by decide +kernel
theorem dX4_layerMoisture_30 : decode cX4_layerMoisture 30 = .ok (.iload_n 2, 1) := by decide +kernel
theorem dX4_layerMoisture_31 : decode cX4_layerMoisture 31 = .ok (.aload_n 3, 1) := by decide +kernel
theorem dX4_layerMoisture_32 : decode cX4_layerMoisture 32 = .ok (.arraylength, 1) := by decide +kernel
theorem dX4_layerMoisture_33 : decode cX4_layerMoisture 33 = .ok (.if_icmp .ge 9, 3) := by decide +kernel
theorem dX4_layerMoisture_36 : decode cX4_layerMoisture 36 = .ok (.aload_n 3, 1) := by decide +kernel
theorem dX4_layerMoisture_37 : decode cX4_layerMoisture 37 = .ok (.iload_n 2, 1) := by decide +kernel
theorem dX4_layerMoisture_38 : decode cX4_layerMoisture 38 = .ok (.iaload, 1) := by decide +kernel
theorem dX4_layerMoisture_39 : decode cX4_layerMoisture 39 = .ok (.goto 5, 3) := by decide +kernel
theorem dX4_layerMoisture_42 : decode cX4_layerMoisture 42 = .ok (.ldc 78, 2) := by decide +kernel
theorem dX4_layerMoisture_44 : decode cX4_layerMoisture 44 = .ok (.ireturn, 1) := by decide +kernel
set_option maxRecDepth 20000 in
theorem ggX4_averageMoisture_X1_has : GoodIn wsX4_averageMoisture wsX1_has := goodIn_r _ [7, 8, 9, 10, 11, 12, 13, 14, 58, 59, 60, 61, 62, 63] (by decide +kernel) (by decide +kernel)
set_option maxRecDepth 20000 in
theorem gX4_averageMoisture_X1_has : GoodIn wsX4_averageMoisture (wsV RX4 66 RX1 yX1_has wsX1_has) := goodIn_app (goodIn_of _ (by decide +kernel)) ggX4_averageMoisture_X1_has
set_option maxRecDepth 20000 in
theorem ggX4_averageMoisture_X1_boardAt : GoodIn wsX4_averageMoisture wsX1_boardAt := goodIn_r _ [18, 8, 19, 20, 21, 22, 12, 23, 14, 24, 25, 26, 27, 28, 29, 30, 31, 32, 33, 34, 35, 36, 58, 59, 60, 61, 62, 63] (by decide +kernel) (by decide +kernel)
set_option maxRecDepth 20000 in
theorem gX4_averageMoisture_X1_boardAt : GoodIn wsX4_averageMoisture (wsV RX4 71 RX1 yX1_boardAt wsX1_boardAt) := goodIn_app (goodIn_of _ (by decide +kernel)) ggX4_averageMoisture_X1_boardAt
set_option maxRecDepth 20000 in
theorem ggX4_averageMoisture_X0_average : GoodIn wsX4_averageMoisture wsX0_average := goodIn_r _ [41, 42, 43, 44, 45, 40, 46, 47, 48, 49, 64, 65, 66] (by decide +kernel) (by decide +kernel)
set_option maxRecDepth 20000 in
theorem gX4_averageMoisture_X0_average : GoodIn wsX4_averageMoisture (wsV RX4 79 RX0 yX0_average wsX0_average) := goodIn_app (goodIn_of _ (by decide +kernel)) ggX4_averageMoisture_X0_average
theorem dX4_averageMoisture_0 : decode cX4_averageMoisture 0 = .ok (.aload_n 0, 1) := by decide +kernel
theorem dX4_averageMoisture_1 : decode cX4_averageMoisture 1 = .ok (.getfield 26, 3) := by decide +kernel
theorem dX4_averageMoisture_4 : decode cX4_averageMoisture 4 = .ok (.iload_n 1, 1) := by decide +kernel
theorem dX4_averageMoisture_5 : decode cX4_averageMoisture 5 = .ok (.invokevirtual 66, 3) := by decide +kernel
theorem dX4_averageMoisture_8 : decode cX4_averageMoisture 8 = .ok (.ifCond .eq 17, 3) := by decide +kernel
theorem dX4_averageMoisture_11 : decode cX4_averageMoisture 11 = .ok (.aload_n 0, 1) := by decide +kernel
theorem dX4_averageMoisture_12 : decode cX4_averageMoisture 12 = .ok (.getfield 26, 3) := by decide +kernel
theorem dX4_averageMoisture_15 : decode cX4_averageMoisture 15 = .ok (.iload_n 1, 1) := by decide +kernel
theorem dX4_averageMoisture_16 : decode cX4_averageMoisture 16 = .ok (.invokevirtual 71, 3) := by decide +kernel
theorem dX4_averageMoisture_19 : decode cX4_averageMoisture 19 = .ok (.invokevirtual 79, 3) := by decide +kernel
theorem dX4_averageMoisture_22 : decode cX4_averageMoisture 22 = .ok (.goto 5, 3) := by decide +kernel
theorem dX4_averageMoisture_25 : decode cX4_averageMoisture 25 = .ok (.ldc 70, 2) := by decide +kernel
theorem dX4_averageMoisture_27 : decode cX4_averageMoisture 27 = .ok (.ireturn, 1) := by decide +kernel
set_option maxRecDepth 20000 in
theorem ggX4_strain_X1_has : GoodIn wsX4_strain wsX1_has := goodIn_r _ [7, 8, 9, 10, 11, 12, 13, 14, 58, 59, 60, 61, 62, 63] (by decide +kernel) (by decide +kernel)
set_option maxRecDepth 20000 in
theorem gX4_strain_X1_has : GoodIn wsX4_strain (wsV RX4 66 RX1 yX1_has wsX1_has) := goodIn_app (goodIn_of _ (by decide +kernel)) ggX4_strain_X1_has
set_option maxRecDepth 20000 in
theorem ggX4_strain_X1_boardAt : GoodIn wsX4_strain wsX1_boardAt := goodIn_r _ [18, 8, 19, 20, 21, 22, 12, 23, 14, 24, 25, 26, 27, 28, 29, 30, 31, 32, 33, 34, 35, 36, 58, 59, 60, 61, 62, 63] (by decide +kernel) (by decide +kernel)
set_option maxRecDepth 20000 in
theorem gX4_strain_X1_boardAt : GoodIn wsX4_strain (wsV RX4 71 RX1 yX1_boardAt wsX1_boardAt) := goodIn_app (goodIn_of _ (by decide +kernel)) ggX4_strain_X1_boardAt
set_option maxRecDepth 20000 in
theorem ggX4_strain_X0_gradient : GoodIn wsX4_strain wsX0_gradient := goodIn_r _ [41, 42, 43, 44, 45, 46, 47, 48, 49, 64, 65, 66] (by decide +kernel) (by decide +kernel)
set_option maxRecDepth 20000 in
theorem gX4_strain_X0_gradient : GoodIn wsX4_strain (wsV RX4 82 RX0 yX0_gradient wsX0_gradient) := goodIn_app (goodIn_of _ (by decide +kernel)) ggX4_strain_X0_gradient
theorem dX4_strain_0 : decode cX4_strain 0 = .ok (.aload_n 0, 1) := by decide +kernel
theorem dX4_strain_1 : decode cX4_strain 1 = .ok (.getfield 26, 3) := by decide +kernel
theorem dX4_strain_4 : decode cX4_strain 4 = .ok (.iload_n 1, 1) := by decide +kernel
theorem dX4_strain_5 : decode cX4_strain 5 = .ok (.invokevirtual 66, 3) := by decide +kernel
theorem dX4_strain_8 : decode cX4_strain 8 = .ok (.ifCond .eq 17, 3) := by decide +kernel
theorem dX4_strain_11 : decode cX4_strain 11 = .ok (.aload_n 0, 1) := by decide +kernel
theorem dX4_strain_12 : decode cX4_strain 12 = .ok (.getfield 26, 3) := by decide +kernel
theorem dX4_strain_15 : decode cX4_strain 15 = .ok (.iload_n 1, 1) := by decide +kernel
theorem dX4_strain_16 : decode cX4_strain 16 = .ok (.invokevirtual 71, 3) := by decide +kernel
theorem dX4_strain_19 : decode cX4_strain 19 = .ok (.invokevirtual 82, 3) := by decide +kernel
theorem dX4_strain_22 : decode cX4_strain 22 = .ok (.goto 5, 3) := by decide +kernel
theorem dX4_strain_25 : decode cX4_strain 25 = .ok (.ldc 70, 2) := by decide +kernel
theorem dX4_strain_27 : decode cX4_strain 27 = .ok (.ireturn, 1) := by decide +kernel
set_option maxRecDepth 20000 in
theorem ggX4_checkHour_X1_has : GoodIn wsX4_checkHour wsX1_has := goodIn_r _ [8, 9, 10, 11, 12, 13, 14, 15, 49, 50, 51, 52, 53, 54] (by decide +kernel) (by decide +kernel)

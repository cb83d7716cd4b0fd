set_option maxHeartbeats 4000000 in
set_option maxRecDepth 100000 in
theorem c_X5_addStage (l : Launch) (E : Ev) (hE : EO E) (v : Mem) (a : Int32) (b : Int32) (ns : Nat) (hns : v 15 16 = nI ns) (h8 : ns ≤ 8) : Ci l yX5_addStage wsX5_addStage ({ frames := 1, cells := 0, slots := 0, locals := 22 } : Room) E [.ref (eAd E 15), .int a, .int b] v (masr v ns a b) (masm v ns a b) := by
  refine Ci.of (cc := cX5_addStage) (maxL := 3) (ret := (some .int)) (own := RX5) (by decide) rfl rfl (Nat.le_of_ble_eq_true rfl) ?_
  intro p e s m below meth c F hr hlk ls hl hH
  obtain ⟨hx, hb, hml, hown, hts⟩ := id F.1
  have hl : lv_has ls 3 [(0, .ref (eAd E 15)), (1, .int a), (2, .int b)] := hl
  have inX5 : ∀ w ∈ wsX50, w ∈ wsX5_addStage := fun w h => List.mem_cons_of_mem _ (List.mem_append_right _ h)
  refine lv_iload_n hx hb dX5_addStage_0 rfl (lv_at hl 1 rfl) ?_
  refine lv_iconst (v := 0) hx hb dX5_addStage_1 (by decide) ?_
  refine lv_sipush (v := 2000) hx hb dX5_addStage_2 (by decide) ?_
  refine g_si (As := [.int a, .int 0, .int 2000]) F hH (c_X5_isBetween l E hE v a 0 2000) (va_cwS 3 hts gX5_addStage_X5_isBetween rfl rfl rfl (by decide +kernel) ⟨Nat.le_of_ble_eq_true rfl, Nat.le_of_ble_eq_true rfl⟩) rfl hl.1 [] rfl (Nat.le_of_ble_eq_true rfl) dX5_addStage_5 ⟨Nat.zero_le _, Nat.zero_le _⟩ (fun H locs hH => ?_)
  refine lv_if_eq (tgt := 44) hx hb dX5_addStage_8 (by decide) (fun c1 => ?_) (fun c1 => ?_)
  · skip
    refine lv_ldc (v := -1000003) hx hb hown (hts (.constant RX5 66 (-1000003)) (by decide +kernel)) dX5_addStage_44 ?_
    exact g_iret F hr hlk hH (by first | rfl | (simp only [masr, c1, if_true, if_false, ↓reduceIte, false_and, and_false, true_and, and_true, not_true_eq_false, not_false_eq_true])) (by first | rfl | (simp only [masm, c1, if_true, if_false, ↓reduceIte, false_and, and_false, true_and, and_true, not_true_eq_false, not_false_eq_true])) dX5_addStage_46
  · skip
    refine lv_aload_n hx hb dX5_addStage_11 rfl (lv_at hl 0 rfl) ?_
    refine g_get (x := .int (v 15 16)) F hH inX5 (hE.2.1 15 (by decide) (by decide)) (cq_mo E _) rfl 16 (by decide) (hts (.fieldLink RX5 131 "DryingKilnModel" "stages" "I") (by decide +kernel)) (fun _ h => h) rfl dX5_addStage_12 ?_
    rw [show v 15 16 = nI ns from hns]
    refine lv_if_le (tgt := 33) hx hb dX5_addStage_15 (by decide) (fun c2 => ?_) (fun c2 => ?_)
    · skip
      have c2 : ¬ 0 < ns := fun h => absurd c2 (nI_nle h (by omega))
      refine lv_iload_n hx hb dX5_addStage_33 rfl (lv_at hl 2 rfl) ?_
      refine lv_iconst (v := 0) hx hb dX5_addStage_34 (by decide) ?_
      refine lv_sipush (v := 300) hx hb dX5_addStage_35 (by decide) ?_
      refine g_si (As := [.int b, .int 0, .int 300]) F hH (c_X5_isBetween l E hE v b 0 300) (va_cwS 3 hts gX5_addStage_X5_isBetween rfl rfl rfl (by decide +kernel) ⟨Nat.le_of_ble_eq_true rfl, Nat.le_of_ble_eq_true rfl⟩) rfl hl.1 [] rfl (Nat.le_of_ble_eq_true rfl) dX5_addStage_38 ⟨Nat.zero_le _, Nat.zero_le _⟩ (fun H locs hH => ?_)
      refine lv_if_ne (tgt := 47) hx hb dX5_addStage_41 (by decide) (fun c3 => ?_) (fun c3 => ?_)
      · skip
        refine lv_aload_n hx hb dX5_addStage_47 rfl (lv_at hl 0 rfl) ?_
        refine g_get (x := .int (v 15 16)) F hH inX5 (hE.2.1 15 (by decide) (by decide)) (cq_mo E _) rfl 16 (by decide) (hts (.fieldLink RX5 131 "DryingKilnModel" "stages" "I") (by decide +kernel)) (fun _ h => h) rfl dX5_addStage_48 ?_
        rw [show v 15 16 = nI ns from hns]
        refine lv_bipush (v := 8) hx hb dX5_addStage_51 (by decide) ?_
        refine lv_icmp_ne (tgt := 59) hx hb dX5_addStage_53 (by decide) (fun c4 => ?_) (fun c4 => ?_)
        · skip
          have c4 : ns < 8 := by have h9 : ¬ ns = 8 := (fun h => c4 (by rw [h]; rfl)); omega
          refine lv_aload_n hx hb dX5_addStage_59 rfl (lv_at hl 0 rfl) ?_
          refine g_get (x := .ref (eAd E 21)) F hH inX5 (hE.2.1 15 (by decide) (by decide)) (cq_mo E _) rfl 17 (by decide) (hts (.fieldLink RX5 38 "DryingKilnModel" "thresholdOf" "[I") (by decide +kernel)) (fun _ h => h) rfl dX5_addStage_60 ?_
          refine lv_aload_n hx hb dX5_addStage_63 rfl (lv_at hl 0 rfl) ?_
          refine g_get (x := .int (v 15 16)) F hH inX5 (hE.2.1 15 (by decide) (by decide)) (cq_mo E _) rfl 16 (by decide) (hts (.fieldLink RX5 131 "DryingKilnModel" "stages" "I") (by decide +kernel)) (fun _ h => h) rfl dX5_addStage_64 ?_
          rw [show v 15 16 = nI ns from hns]
          refine lv_iload_n hx hb dX5_addStage_67 rfl (lv_at hl 1 rfl) ?_
          refine g_iast (n := 8) F hH (hE.2.1 21 (by decide) (by decide)) (fun _ => rfl) ns rfl (by omega) (by omega) dX5_addStage_68 (fun H locs hH => ?_)
          refine lv_aload_n hx hb dX5_addStage_69 rfl (lv_at hl 0 rfl) ?_
          refine g_get (x := .ref (eAd E 22)) F hH inX5 (hE.2.1 15 (by decide) (by decide)) (cq_mo E _) rfl 18 (by decide) (hts (.fieldLink RX5 41 "DryingKilnModel" "inletOf" "[I") (by decide +kernel)) (fun _ h => h) rfl dX5_addStage_70 ?_
          refine lv_aload_n hx hb dX5_addStage_73 rfl (lv_at hl 0 rfl) ?_
          refine g_get (x := .int ((st v 21 ns a) 15 16)) F hH inX5 (hE.2.1 15 (by decide) (by decide)) (cq_mo E _) rfl 16 (by decide) (hts (.fieldLink RX5 131 "DryingKilnModel" "stages" "I") (by decide +kernel)) (fun _ h => h) rfl dX5_addStage_74 ?_
          rw [show (st v 21 ns a) 15 16 = v 15 16 by rw [st_ne _ _ _ (by decide)]]
          rw [show v 15 16 = nI ns from hns]
          refine lv_iload_n hx hb dX5_addStage_77 rfl (lv_at hl 2 rfl) ?_
          refine g_iast (n := 8) F hH (hE.2.1 22 (by decide) (by decide)) (fun _ => rfl) ns rfl (by omega) (by omega) dX5_addStage_78 (fun H locs hH => ?_)
          refine lv_aload_n hx hb dX5_addStage_79 rfl (lv_at hl 0 rfl) ?_
          refine lv_dup hx hb dX5_addStage_80 rfl ?_
          refine g_get (x := .int ((st (st v 21 ns a) 22 ns b) 15 16)) F hH inX5 (hE.2.1 15 (by decide) (by decide)) (cq_mo E _) rfl 16 (by decide) (hts (.fieldLink RX5 131 "DryingKilnModel" "stages" "I") (by decide +kernel)) (fun _ h => h) rfl dX5_addStage_81 ?_
          rw [show (st (st v 21 ns a) 22 ns b) 15 16 = v 15 16 by rw [st_ne _ _ _ (by decide), st_ne _ _ _ (by decide)]]
          rw [show v 15 16 = nI ns from hns]
          refine lv_iconst (v := 1) hx hb dX5_addStage_84 (by decide) ?_
          refine lv_iadd hx hb dX5_addStage_85 ?_
          rw [nI_1 ns]
          refine g_put (ty := .int) (x := nI (ns + 1)) F hH inX5 tyX5 tyX5_ok nmX5 (hE.2.1 15 (by decide) (by decide)) (cq_mo E _) rfl 16 (by decide) (hts (.fieldLink RX5 131 "DryingKilnModel" "stages" "I") (by decide +kernel)) (fun _ h => h) rfl (by decide +kernel) rfl rfl (Nat.le_of_ble_eq_true rfl) (cq_mo E _) dX5_addStage_86 (fun H locs hH => ?_)
          refine lv_aload_n hx hb dX5_addStage_89 rfl (lv_at hl 0 rfl) ?_
          refine g_get (x := .int ((st (st (st v 21 ns a) 22 ns b) 15 16 (nI (ns + 1))) 15 16)) F hH inX5 (hE.2.1 15 (by decide) (by decide)) (cq_mo E _) rfl 16 (by decide) (hts (.fieldLink RX5 131 "DryingKilnModel" "stages" "I") (by decide +kernel)) (fun _ h => h) rfl dX5_addStage_90 ?_
          rw [show (st (st (st v 21 ns a) 22 ns b) 15 16 (nI (ns + 1))) 15 16 = nI (ns + 1) by rw [st_at]]
          refine lv_iconst (v := 1) hx hb dX5_addStage_93 (by decide) ?_
          refine lv_isub hx hb dX5_addStage_94 ?_
          rw [show (nI (ns + 1)) - 1 = nI ns from nI_pred ns]
          exact g_iret F hr hlk hH (by first | rfl | (simp only [masr, c1, c2, c3, c4, if_true, if_false, ↓reduceIte, false_and, and_false, true_and, and_true, not_true_eq_false, not_false_eq_true])) (by first | rfl | (simp only [masm, c1, c2, c3, c4, if_true, if_false, ↓reduceIte, false_and, and_false, true_and, and_true, not_true_eq_false, not_false_eq_true])) dX5_addStage_95
        · skip
          have c4 : ¬ ns < 8 := by have h9 : ns = 8 := (nI_eq (b := 8) (by omega) (by omega)).mp c4; omega
          refine lv_ldc (v := -1000004) hx hb hown (hts (.constant RX5 67 (-1000004)) (by decide +kernel)) dX5_addStage_56 ?_
          exact g_iret F hr hlk hH (by first | rfl | (simp only [masr, c1, c2, c3, c4, if_true, if_false, ↓reduceIte, false_and, and_false, true_and, and_true, not_true_eq_false, not_false_eq_true])) (by first | rfl | (simp only [masm, c1, c2, c3, c4, if_true, if_false, ↓reduceIte, false_and, and_false, true_and, and_true, not_true_eq_false, not_false_eq_true])) dX5_addStage_58
      · skip
        refine lv_ldc (v := -1000003) hx hb hown (hts (.constant RX5 66 (-1000003)) (by decide +kernel)) dX5_addStage_44 ?_
        exact g_iret F hr hlk hH (by first | rfl | (simp only [masr, c1, c2, c3, if_true, if_false, ↓reduceIte, false_and, and_false, true_and, and_true, not_true_eq_false, not_false_eq_true])) (by first | rfl | (simp only [masm, c1, c2, c3, if_true, if_false, ↓reduceIte, false_and, and_false, true_and, and_true, not_true_eq_false, not_false_eq_true])) dX5_addStage_46
    · skip
      have c2 : 0 < ns := Nat.pos_of_ne_zero (fun h => c2 (by rw [h]; decide))
      refine lv_iload_n hx hb dX5_addStage_18 rfl (lv_at hl 1 rfl) ?_
      refine lv_aload_n hx hb dX5_addStage_19 rfl (lv_at hl 0 rfl) ?_
      refine g_get (x := .ref (eAd E 21)) F hH inX5 (hE.2.1 15 (by decide) (by decide)) (cq_mo E _) rfl 17 (by decide) (hts (.fieldLink RX5 38 "DryingKilnModel" "thresholdOf" "[I") (by decide +kernel)) (fun _ h => h) rfl dX5_addStage_20 ?_
      refine lv_aload_n hx hb dX5_addStage_23 rfl (lv_at hl 0 rfl) ?_
      refine g_get (x := .int (v 15 16)) F hH inX5 (hE.2.1 15 (by decide) (by decide)) (cq_mo E _) rfl 16 (by decide) (hts (.fieldLink RX5 131 "DryingKilnModel" "stages" "I") (by decide +kernel)) (fun _ h => h) rfl dX5_addStage_24 ?_
      rw [show v 15 16 = nI ns from hns]
      refine lv_iconst (v := 1) hx hb dX5_addStage_27 (by decide) ?_
      refine lv_isub hx hb dX5_addStage_28 ?_
      rw [show (nI ns) - 1 = nI (ns - 1) from nI_m1 (by assumption)]
      refine g_iald (n := 8) (x := v 21 (ns - 1)) F hH (hE.2.1 21 (by decide) (by decide)) rfl (ns - 1) rfl (by omega) (by omega) rfl dX5_addStage_29 ?_
      refine lv_icmp_ge (tgt := 44) hx hb dX5_addStage_30 (by decide) (fun c5 => ?_) (fun c5 => ?_)
      · skip
        refine lv_ldc (v := -1000003) hx hb hown (hts (.constant RX5 66 (-1000003)) (by decide +kernel)) dX5_addStage_44 ?_
        exact g_iret F hr hlk hH (by first | rfl | (simp only [masr, c1, c2, c5, if_true, if_false, ↓reduceIte, false_and, and_false, true_and, and_true, not_true_eq_false, not_false_eq_true])) (by first | rfl | (simp only [masm, c1, c2, c5, if_true, if_false, ↓reduceIte, false_and, and_false, true_and, and_true, not_true_eq_false, not_false_eq_true])) dX5_addStage_46
      · skip
        refine lv_iload_n hx hb dX5_addStage_33 rfl (lv_at hl 2 rfl) ?_
        refine lv_iconst (v := 0) hx hb dX5_addStage_34 (by decide) ?_
        refine lv_sipush (v := 300) hx hb dX5_addStage_35 (by decide) ?_
        refine g_si (As := [.int b, .int 0, .int 300]) F hH (c_X5_isBetween l E hE v b 0 300) (va_cwS 3 hts gX5_addStage_X5_isBetween rfl rfl rfl (by decide +kernel) ⟨Nat.le_of_ble_eq_true rfl, Nat.le_of_ble_eq_true rfl⟩) rfl hl.1 [] rfl (Nat.le_of_ble_eq_true rfl) dX5_addStage_38 ⟨Nat.zero_le _, Nat.zero_le _⟩ (fun H locs hH => ?_)
        refine lv_if_ne (tgt := 47) hx hb dX5_addStage_41 (by decide) (fun c6 => ?_) (fun c6 => ?_)
        · skip
          refine lv_aload_n hx hb dX5_addStage_47 rfl (lv_at hl 0 rfl) ?_
          refine g_get (x := .int (v 15 16)) F hH inX5 (hE.2.1 15 (by decide) (by decide)) (cq_mo E _) rfl 16 (by decide) (hts (.fieldLink RX5 131 "DryingKilnModel" "stages" "I") (by decide +kernel)) (fun _ h => h) rfl dX5_addStage_48 ?_
          rw [show v 15 16 = nI ns from hns]
          refine lv_bipush (v := 8) hx hb dX5_addStage_51 (by decide) ?_
          refine lv_icmp_ne (tgt := 59) hx hb dX5_addStage_53 (by decide) (fun c7 => ?_) (fun c7 => ?_)
          · skip
            have c7 : ns < 8 := by have h9 : ¬ ns = 8 := (fun h => c7 (by rw [h]; rfl)); omega
            refine lv_aload_n hx hb dX5_addStage_59 rfl (lv_at hl 0 rfl) ?_
            refine g_get (x := .ref (eAd E 21)) F hH inX5 (hE.2.1 15 (by decide) (by decide)) (cq_mo E _) rfl 17 (by decide) (hts (.fieldLink RX5 38 "DryingKilnModel" "thresholdOf" "[I") (by decide +kernel)) (fun _ h => h) rfl dX5_addStage_60 ?_
            refine lv_aload_n hx hb dX5_addStage_63 rfl (lv_at hl 0 rfl) ?_
            refine g_get (x := .int (v 15 16)) F hH inX5 (hE.2.1 15 (by decide) (by decide)) (cq_mo E _) rfl 16 (by decide) (hts (.fieldLink RX5 131 "DryingKilnModel" "stages" "I") (by decide +kernel)) (fun _ h => h) rfl dX5_addStage_64 ?_
            rw [show v 15 16 = nI ns from hns]
            refine lv_iload_n hx hb dX5_addStage_67 rfl (lv_at hl 1 rfl) ?_
            refine g_iast (n := 8) F hH (hE.2.1 21 (by decide) (by decide)) (fun _ => rfl) ns rfl (by omega) (by omega) dX5_addStage_68 (fun H locs hH => ?_)
            refine lv_aload_n hx hb dX5_addStage_69 rfl (lv_at hl 0 rfl) ?_
            refine g_get (x := .ref (eAd E 22)) F hH inX5 (hE.2.1 15 (by decide) (by decide)) (cq_mo E _) rfl 18 (by decide) (hts (.fieldLink RX5 41 "DryingKilnModel" "inletOf" "[I") (by decide +kernel)) (fun _ h => h) rfl dX5_addStage_70 ?_
            refine lv_aload_n hx hb dX5_addStage_73 rfl (lv_at hl 0 rfl) ?_
            refine g_get (x := .int ((st v 21 ns a) 15 16)) F hH inX5 (hE.2.1 15 (by decide) (by decide)) (cq_mo E _) rfl 16 (by decide) (hts (.fieldLink RX5 131 "DryingKilnModel" "stages" "I") (by decide +kernel)) (fun _ h => h) rfl dX5_addStage_74 ?_
            rw [show (st v 21 ns a) 15 16 = v 15 16 by rw [st_ne _ _ _ (by decide)]]
            rw [show v 15 16 = nI ns from hns]
            refine lv_iload_n hx hb dX5_addStage_77 rfl (lv_at hl 2 rfl) ?_
            refine g_iast (n := 8) F hH (hE.2.1 22 (by decide) (by decide)) (fun _ => rfl) ns rfl (by omega) (by omega) dX5_addStage_78 (fun H locs hH => ?_)
            refine lv_aload_n hx hb dX5_addStage_79 rfl (lv_at hl 0 rfl) ?_
            refine lv_dup hx hb dX5_addStage_80 rfl ?_
            refine g_get (x := .int ((st (st v 21 ns a) 22 ns b) 15 16)) F hH inX5 (hE.2.1 15 (by decide) (by decide)) (cq_mo E _) rfl 16 (by decide) (hts (.fieldLink RX5 131 "DryingKilnModel" "stages" "I") (by decide +kernel)) (fun _ h => h) rfl dX5_addStage_81 ?_
            rw [show (st (st v 21 ns a) 22 ns b) 15 16 = v 15 16 by rw [st_ne _ _ _ (by decide), st_ne _ _ _ (by decide)]]
            rw [show v 15 16 = nI ns from hns]
            refine lv_iconst (v := 1) hx hb dX5_addStage_84 (by decide) ?_
            refine lv_iadd hx hb dX5_addStage_85 ?_
            rw [nI_1 ns]
            refine g_put (ty := .int) (x := nI (ns + 1)) F hH inX5 tyX5 tyX5_ok nmX5 (hE.2.1 15 (by decide) (by decide)) (cq_mo E _) rfl 16 (by decide) (hts (.fieldLink RX5 131 "DryingKilnModel" "stages" "I") (by decide +kernel)) (fun _ h => h) rfl (by decide +kernel) rfl rfl (Nat.le_of_ble_eq_true rfl) (cq_mo E _) dX5_addStage_86 (fun H locs hH => ?_)
            refine lv_aload_n hx hb dX5_addStage_89 rfl (lv_at hl 0 rfl) ?_
            refine g_get (x := .int ((st (st (st v 21 ns a) 22 ns b) 15 16 (nI (ns + 1))) 15 16)) F hH inX5 (hE.2.1 15 (by decide) (by decide)) (cq_mo E _) rfl 16 (by decide) (hts (.fieldLink RX5 131 "DryingKilnModel" "stages" "I") (by decide +kernel)) (fun _ h => h) rfl dX5_addStage_90 ?_
            rw [show (st (st (st v 21 ns a) 22 ns b) 15 16 (nI (ns + 1))) 15 16 = nI (ns + 1) by rw [st_at]]
            refine lv_iconst (v := 1) hx hb dX5_addStage_93 (by decide) ?_
            refine lv_isub hx hb dX5_addStage_94 ?_
            rw [show (nI (ns + 1)) - 1 = nI ns from nI_pred ns]
            exact g_iret F hr hlk hH (by first | rfl | (simp only [masr, c1, c2, c5, c6, c7, if_true, if_false, ↓reduceIte, false_and, and_false, true_and, and_true, not_true_eq_false, not_false_eq_true])) (by first | rfl | (simp only [masm, c1, c2, c5, c6, c7, if_true, if_false, ↓reduceIte, false_and, and_false, true_and, and_true, not_true_eq_false, not_false_eq_true])) dX5_addStage_95
          · skip
            have c7 : ¬ ns < 8 := by have h9 : ns = 8 := (nI_eq (b := 8) (by omega) (by omega)).mp c7; omega
            refine lv_ldc (v := -1000004) hx hb hown (hts (.constant RX5 67 (-1000004)) (by decide +kernel)) dX5_addStage_56 ?_
            exact g_iret F hr hlk hH (by first | rfl | (simp only [masr, c1, c2, c5, c6, c7, if_true, if_false, ↓reduceIte, false_and, and_false, true_and, and_true, not_true_eq_false, not_false_eq_true])) (by first | rfl | (simp only [masm, c1, c2, c5, c6, c7, if_true, if_false, ↓reduceIte, false_and, and_false, true_and, and_true, not_true_eq_false, not_false_eq_true])) dX5_addStage_58
        · skip
          refine lv_ldc (v := -1000003) hx hb hown (hts (.constant RX5 66 (-1000003)) (by decide +kernel)) dX5_addStage_44 ?_
          exact g_iret F hr hlk hH (by first | rfl | (simp only [masr, c1, c2, c5, c6, if_true, if_false, ↓reduceIte, false_and, and_false, true_and, and_true, not_true_eq_false, not_false_eq_true])) (by first | rfl | (simp only [masm, c1, c2, c5, c6, if_true, if_false, ↓reduceIte, false_and, and_false, true_and, and_true, not_true_eq_false, not_false_eq_true])) dX5_addStage_46

set_option maxHeartbeats 4000000 in
set_option maxRecDepth 100000 in
theorem c_X5_clearStages (l : Launch) (E : Ev) (hE : EO E) (v : Mem) : Ci l yX5_clearStages wsX5_clearStages ({ frames := 0, cells := 0, slots := 0, locals := 0 } : Room) E [.ref (eAd E 15)] v (v 15 16) (st v 15 16 0) := by
  refine Ci.of (cc := cX5_clearStages) (maxL := 2) (ret := (some .int)) (own := RX5) (by decide) rfl rfl (Nat.le_of_ble_eq_true rfl) ?_
  intro p e s m below meth c F hr hlk ls hl hH
  obtain ⟨hx, hb, hml, hown, hts⟩ := id F.1
  have hl : lv_has ls 2 [(0, .ref (eAd E 15))] := hl
  have inX5 : ∀ w ∈ wsX50, w ∈ wsX5_clearStages := fun w h => List.mem_cons_of_mem _ (List.mem_append_right _ h)
  refine lv_aload_n hx hb dX5_clearStages_0 rfl (lv_at hl 0 rfl) ?_
  refine g_get (x := .int (v 15 16)) F hH inX5 (hE.2.1 15 (by decide) (by decide)) (cq_mo E _) rfl 16 (by decide) (hts (.fieldLink RX5 131 "DryingKilnModel" "stages" "I") (by decide +kernel)) (fun _ h => h) rfl dX5_clearStages_1 ?_
  refine lv_istore_n (lv' := [(1, .int (v 15 16)), (0, .ref (eAd E 15))]) hx hb dX5_clearStages_4 rfl hl (by decide) rfl (fun ls hl => ?_)
  refine lv_aload_n hx hb dX5_clearStages_5 rfl (lv_at hl 1 rfl) ?_
  refine lv_iconst (v := 0) hx hb dX5_clearStages_6 (by decide) ?_
  refine g_put (ty := .int) (x := 0) F hH inX5 tyX5 tyX5_ok nmX5 (hE.2.1 15 (by decide) (by decide)) (cq_mo E _) rfl 16 (by decide) (hts (.fieldLink RX5 131 "DryingKilnModel" "stages" "I") (by decide +kernel)) (fun _ h => h) rfl (by decide +kernel) rfl rfl (Nat.le_of_ble_eq_true rfl) (cq_mo E _) dX5_clearStages_7 (fun H locs hH => ?_)
  refine lv_iload_n hx hb dX5_clearStages_10 rfl (lv_at hl 0 rfl) ?_
  exact g_iret F hr hlk hH (by first | rfl | (simp only [if_true, if_false, ↓reduceIte]; done) | (simp only [if_true, if_false, ↓reduceIte]; rfl)) (by first | rfl | (simp only [if_true, if_false, ↓reduceIte]; done) | (simp only [if_true, if_false, ↓reduceIte]; rfl)) dX5_clearStages_11

set_option maxHeartbeats 4000000 in
set_option maxRecDepth 100000 in
theorem c_X5_stageNow (l : Launch) (E : Ev) (hE : EO E) (v : Mem) (ns : Nat) (hns : v 15 16 = nI ns) (h8 : ns ≤ 8) : Ci l yX5_stageNow wsX5_stageNow ({ frames := 3, cells := 0, slots := 0, locals := 66 } : Room) E [.ref (eAd E 15)] v (mcsx E v ns) v := by
  refine Ci.of (cc := cX5_stageNow) (maxL := 4) (ret := (some .int)) (own := RX5) (by decide) rfl rfl (Nat.le_of_ble_eq_true rfl) ?_
  intro p e s m below meth c F hr hlk ls hl hH
  obtain ⟨hx, hb, hml, hown, hts⟩ := id F.1
  have hl : lv_has ls 4 [(0, .ref (eAd E 15))] := hl
  have inX5 : ∀ w ∈ wsX50, w ∈ wsX5_stageNow := fun w h => List.mem_cons_of_mem _ (List.mem_append_right _ h)
  have hnb := hE.2.2.2.2.1 3 (by decide)
  have hm4 := hE.2.2.2.2.2.2
  refine lv_aload_n hx hb dX5_stageNow_0 rfl (lv_at hl 0 rfl) ?_
  refine g_vi (As := []) F hH (c_X5_wettest l E hE v) (cwV 0 hts gX5_stageNow_X5_wettest rfl rfl rfl (by decide +kernel) ⟨Nat.le_of_ble_eq_true rfl, Nat.le_of_ble_eq_true rfl⟩) (hE.2.1 15 (by decide) (by decide)) (cq_mo E _) rfl rfl hl.1 [] rfl (Nat.le_of_ble_eq_true rfl) dX5_stageNow_1 ⟨Nat.zero_le _, Nat.zero_le _⟩ (fun H locs hH => ?_)
  refine lv_istore_n (lv' := [(1, .int (mwb E v (eNb E 3))), (0, .ref (eAd E 15))]) hx hb dX5_stageNow_4 rfl hl (by decide) rfl (fun ls hl => ?_)
  refine lv_ldc (v := -1000005) hx hb hown (hts (.constant RX5 68 (-1000005)) (by decide +kernel)) dX5_stageNow_5 ?_
  refine lv_istore_n (lv' := [(2, .int (-1000005)), (1, .int (mwb E v (eNb E 3))), (0, .ref (eAd E 15))]) hx hb dX5_stageNow_7 rfl hl (by decide) rfl (fun ls hl => ?_)
  refine lv_iconst (v := 0) hx hb dX5_stageNow_8 (by decide) ?_
  refine lv_istore_n (lv' := [(3, .int 0), (2, .int (-1000005)), (1, .int (mwb E v (eNb E 3))), (0, .ref (eAd E 15))]) hx hb dX5_stageNow_9 rfl hl (by decide) rfl (fun ls hl => ?_)
  have loop10 : ∀ (n t : Nat), t + n = ns → ∀ (H : Heap) (locs : List Loc) (ls : Array Slot), HS E s.heap v H locs → lv_has ls 4 [(0, .ref (eAd E 15)), (1, .int (mwb E v (eNb E 3))), (2, .int (mcsx E v t)), (3, .int (nI t))] → W p l e ({ frames := 3, cells := 0, slots := 0, locals := 66 } : Room) s m ([.ref (eAd E 15)] : List Value).toArray below meth c H locs 0 0 (Zi below E ([.ref (eAd E 15)] : List Value).toArray s (mcsx E v ns) v) (F0 m 10 ls []) := by
    intro n
    induction n with
    | zero =>
      intro t ht H locs ls hH hl
      obtain rfl : ns = t := by omega
      refine lv_iload_n hx hb dX5_stageNow_10 rfl (lv_at hl 3 rfl) ?_
      refine lv_aload_n hx hb dX5_stageNow_11 rfl (lv_at hl 0 rfl) ?_
      refine g_get (x := .int (v 15 16)) F hH inX5 (hE.2.1 15 (by decide) (by decide)) (cq_mo E _) rfl 16 (by decide) (hts (.fieldLink RX5 131 "DryingKilnModel" "stages" "I") (by decide +kernel)) (fun _ h => h) rfl dX5_stageNow_12 ?_
      rw [show v 15 16 = nI ns from hns]
      refine lv_icmp_ge (tgt := 50) hx hb dX5_stageNow_15 (by decide) (fun c1 => ?_) (fun c1 => ?_)
      · skip
        refine lv_iload_n hx hb dX5_stageNow_50 rfl (lv_at hl 2 rfl) ?_
        exact g_iret F hr hlk hH (by first | rfl | (rw [mcsx_00 _ h0, mcsx_00 _ h0])) rfl dX5_stageNow_51
      · skip
        exact absurd (nI_le (Nat.le_refl _) (by omega)) c1
    | succ n ih =>
      intro t ht H locs ls hH hl
      have htN : t < ns := by omega
      refine lv_iload_n hx hb dX5_stageNow_10 rfl (lv_at hl 3 rfl) ?_
      refine lv_aload_n hx hb dX5_stageNow_11 rfl (lv_at hl 0 rfl) ?_
      refine g_get (x := .int (v 15 16)) F hH inX5 (hE.2.1 15 (by decide) (by decide)) (cq_mo E _) rfl 16 (by decide) (hts (.fieldLink RX5 131 "DryingKilnModel" "stages" "I") (by decide +kernel)) (fun _ h => h) rfl dX5_stageNow_12 ?_
      rw [show v 15 16 = nI ns from hns]
      refine lv_icmp_ge (tgt := 50) hx hb dX5_stageNow_15 (by decide) (fun c2 => ?_) (fun c2 => ?_)
      · skip
        exact absurd c2 (nI_ge htN (by omega))
      · skip
        refine lv_iload_n hx hb dX5_stageNow_18 rfl (lv_at hl 1 rfl) ?_
        refine lv_ldc (v := -1000005) hx hb hown (hts (.constant RX5 68 (-1000005)) (by decide +kernel)) dX5_stageNow_19 ?_
        refine lv_icmp_eq (tgt := 50) hx hb dX5_stageNow_21 (by decide) (fun c3 => ?_) (fun c3 => ?_)
        · skip
          have h0 := mwb_0 (by omega) c3
          refine lv_iload_n hx hb dX5_stageNow_50 rfl (lv_at hl 2 rfl) ?_
          exact g_iret F hr hlk hH (by first | rfl | (rw [mcsx_00 _ h0, mcsx_00 _ h0])) rfl dX5_stageNow_51
        · skip
          have h0 := mwb_n c3
          rw [show mwb E v (eNb E 3) = nI (mwi E v (eNb E 3)) from if_neg h0] at hl
          have hmw := mwi_lt E v (eNb E 3) (by omega)
          refine lv_aload_n hx hb dX5_stageNow_24 rfl (lv_at hl 0 rfl) ?_
          refine g_get (x := .ref (eAd E 21)) F hH inX5 (hE.2.1 15 (by decide) (by decide)) (cq_mo E _) rfl 17 (by decide) (hts (.fieldLink RX5 38 "DryingKilnModel" "thresholdOf" "[I") (by decide +kernel)) (fun _ h => h) rfl dX5_stageNow_25 ?_
          refine lv_iload_n hx hb dX5_stageNow_28 rfl (lv_at hl 3 rfl) ?_
          refine g_iald (n := 8) (x := v 21 t) F hH (hE.2.1 21 (by decide) (by decide)) rfl t rfl (by omega) (by omega) rfl dX5_stageNow_29 ?_
          refine lv_aload_n hx hb dX5_stageNow_30 rfl (lv_at hl 0 rfl) ?_
          refine lv_iload_n hx hb dX5_stageNow_31 rfl (lv_at hl 1 rfl) ?_
          refine g_vi (As := [.int (nI (mwi E v (eNb E 3)))]) F hH (c_X5_averageOf l E hE v (mwi E v (eNb E 3)) (by first | assumption | omega | decide)) (cwV 1 hts gX5_stageNow_X5_averageOf rfl rfl rfl (by decide +kernel) ⟨Nat.le_of_ble_eq_true rfl, Nat.le_of_ble_eq_true rfl⟩) (hE.2.1 15 (by decide) (by decide)) (cq_mo E _) rfl rfl hl.1 [.int (v 21 t)] rfl (Nat.le_of_ble_eq_true rfl) dX5_stageNow_32 ⟨Nat.zero_le _, Nat.zero_le _⟩ (fun H locs hH => ?_)
          refine lv_icmp_lt (tgt := 42) hx hb dX5_stageNow_35 (by decide) (fun c4 => ?_) (fun c4 => ?_)
          · skip
            refine lv_iload_n hx hb dX5_stageNow_42 rfl (lv_at hl 2 rfl) ?_
            refine lv_istore_n (lv' := [(2, .int (mcsx E v t)), (0, .ref (eAd E 15)), (1, .int (nI (mwi E v (eNb E 3)))), (3, .int (nI t))]) hx hb dX5_stageNow_43 rfl hl (by decide) rfl (fun ls hl => ?_)
            refine lv_iinc (v := nI (t + 1)) (lv' := [(3, .int (nI (t + 1))), (2, .int (mcsx E v t)), (0, .ref (eAd E 15)), (1, .int (nI (mwi E v (eNb E 3))))]) hx hb dX5_stageNow_44 hl (k := 3) rfl (nI_1 _) (by decide) rfl (fun ls hl => ?_)
            refine lv_goto (tgt := 10) hx hb dX5_stageNow_47 (by decide) ?_
            exact ih (t + 1) (by omega) _ _ ls (by first | exact hH | (simp only [c2, c3, c4, if_true, if_false, ↓reduceIte]; exact hH)) (by have h := lv_sub hl [2, 3, 1, 0] rfl; rw [show mwb E v (eNb E 3) = nI (mwi E v (eNb E 3)) from if_neg h0]; first | (rw [mcsx_lt h0 c4]; exact h) | (rw [mcsx_ge h0 c4]; exact h))
          · skip
            refine lv_iload_n hx hb dX5_stageNow_38 rfl (lv_at hl 3 rfl) ?_
            refine lv_goto (tgt := 43) hx hb dX5_stageNow_39 (by decide) ?_
            refine lv_istore_n (lv' := [(2, .int (nI t)), (0, .ref (eAd E 15)), (1, .int (nI (mwi E v (eNb E 3)))), (3, .int (nI t))]) hx hb dX5_stageNow_43 rfl hl (by decide) rfl (fun ls hl => ?_)
            refine lv_iinc (v := nI (t + 1)) (lv' := [(3, .int (nI (t + 1))), (2, .int (nI t)), (0, .ref (eAd E 15)), (1, .int (nI (mwi E v (eNb E 3))))]) hx hb dX5_stageNow_44 hl (k := 3) rfl (nI_1 _) (by decide) rfl (fun ls hl => ?_)
            refine lv_goto (tgt := 10) hx hb dX5_stageNow_47 (by decide) ?_
            exact ih (t + 1) (by omega) _ _ ls (by first | exact hH | (simp only [c2, c3, c4, if_true, if_false, ↓reduceIte]; exact hH)) (by have h := lv_sub hl [2, 3, 1, 0] rfl; rw [show mwb E v (eNb E 3) = nI (mwi E v (eNb E 3)) from if_neg h0]; first | (rw [mcsx_lt h0 c4]; exact h) | (rw [mcsx_ge h0 c4]; exact h))
  exact loop10 ns 0 (Nat.zero_add _) _ _ ls hH (by rw [← mcsx_0 E v]; exact lv_sub hl [3, 2, 1, 0] rfl)

set_option maxHeartbeats 4000000 in
set_option maxRecDepth 100000 in
theorem c_X5_currentStage (l : Launch) (E : Ev) (hE : EO E) (v : Mem) (ns : Nat) (hns : v 15 16 = nI ns) (h8 : ns ≤ 8) : Ci l yX5_currentStage wsX5_currentStage ({ frames := 4, cells := 0, slots := 0, locals := 89 } : Room) E [.ref (eAd E 15)] v (mcsx E v ns) v := by
  refine Ci.of (cc := cX5_currentStage) (maxL := 1) (ret := (some .int)) (own := RX5) (by decide) rfl rfl (Nat.le_of_ble_eq_true rfl) ?_
  intro p e s m below meth c F hr hlk ls hl hH
  obtain ⟨hx, hb, hml, hown, hts⟩ := id F.1
  have hl : lv_has ls 1 [(0, .ref (eAd E 15))] := hl
  have inX5 : ∀ w ∈ wsX50, w ∈ wsX5_currentStage := fun w h => List.mem_cons_of_mem _ (List.mem_append_right _ h)
  refine lv_aload_n hx hb dX5_currentStage_0 rfl (lv_at hl 0 rfl) ?_
  refine g_vi (As := []) F hH (c_X5_stageNow l E hE v ns (by first | assumption | omega | decide) (by first | assumption | omega | decide)) (cwV 0 hts gX5_currentStage_X5_stageNow rfl rfl rfl (by decide +kernel) ⟨Nat.le_of_ble_eq_true rfl, Nat.le_of_ble_eq_true rfl⟩) (hE.2.1 15 (by decide) (by decide)) (cq_mo E _) rfl rfl hl.1 [] rfl (Nat.le_of_ble_eq_true rfl) dX5_currentStage_1 ⟨Nat.zero_le _, Nat.zero_le _⟩ (fun H locs hH => ?_)
  exact g_iret F hr hlk hH (by first | rfl | (simp only [if_true, if_false, ↓reduceIte]; done) | (simp only [if_true, if_false, ↓reduceIte]; rfl)) (by first | rfl | (simp only [if_true, if_false, ↓reduceIte]; done) | (simp only [if_true, if_false, ↓reduceIte]; rfl)) dX5_currentStage_4

set_option maxHeartbeats 4000000 in
set_option maxRecDepth 100000 in
theorem c_X5_isWet (l : Launch) (E : Ev) (hE : EO E) (v : Mem) (a : Int32) : Ci l yX5_isWet wsX5_isWet ({ frames := 3, cells := 0, slots := 0, locals := 66 } : Room) E [.ref (eAd E 15), .int a] v (mwt E v a) v := by
  refine Ci.of (cc := cX5_isWet) (maxL := 3) (ret := (some .boolean)) (own := RX5) (by decide) rfl rfl (Nat.le_of_ble_eq_true rfl) ?_
  intro p e s m below meth c F hr hlk ls hl hH
  obtain ⟨hx, hb, hml, hown, hts⟩ := id F.1
  have hl : lv_has ls 3 [(0, .ref (eAd E 15)), (1, .int a)] := hl
  have inX5 : ∀ w ∈ wsX50, w ∈ wsX5_isWet := fun w h => List.mem_cons_of_mem _ (List.mem_append_right _ h)
  have hnb := hE.2.2.2.2.1 3 (by decide)
  have hm4 := hE.2.2.2.2.2.2
  refine lv_aload_n hx hb dX5_isWet_0 rfl (lv_at hl 0 rfl) ?_
  refine g_vi (As := []) F hH (c_X5_wettest l E hE v) (cwV 0 hts gX5_isWet_X5_wettest rfl rfl rfl (by decide +kernel) ⟨Nat.le_of_ble_eq_true rfl, Nat.le_of_ble_eq_true rfl⟩) (hE.2.1 15 (by decide) (by decide)) (cq_mo E _) rfl rfl hl.1 [] rfl (Nat.le_of_ble_eq_true rfl) dX5_isWet_1 ⟨Nat.zero_le _, Nat.zero_le _⟩ (fun H locs hH => ?_)
  refine lv_istore_n (lv' := [(2, .int (mwb E v (eNb E 3))), (0, .ref (eAd E 15)), (1, .int a)]) hx hb dX5_isWet_4 rfl hl (by decide) rfl (fun ls hl => ?_)
  refine lv_iload_n hx hb dX5_isWet_5 rfl (lv_at hl 0 rfl) ?_
  refine lv_ldc (v := -1000005) hx hb hown (hts (.constant RX5 68 (-1000005)) (by decide +kernel)) dX5_isWet_6 ?_
  refine lv_icmp_eq (tgt := 24) hx hb dX5_isWet_8 (by decide) (fun c1 => ?_) (fun c1 => ?_)
  · skip
    have h0 := mwb_0 (by omega) c1
    refine lv_iconst (v := 0) hx hb dX5_isWet_24 (by decide) ?_
    exact g_zret F hr hlk hH (by rfl) (by first | (exact (if_pos h0).symm) | (unfold mwt; rw [if_neg h0]; first | exact (if_pos h0).symm | exact (if_neg h0).symm)) rfl dX5_isWet_25
  · skip
    have h0 := mwb_n c1
    rw [show mwb E v (eNb E 3) = nI (mwi E v (eNb E 3)) from if_neg h0] at hl
    have hmw := mwi_lt E v (eNb E 3) (by omega)
    refine lv_aload_n hx hb dX5_isWet_11 rfl (lv_at hl 1 rfl) ?_
    refine lv_iload_n hx hb dX5_isWet_12 rfl (lv_at hl 0 rfl) ?_
    refine g_vi (As := [.int (nI (mwi E v (eNb E 3)))]) F hH (c_X5_averageOf l E hE v (mwi E v (eNb E 3)) (by first | assumption | omega | decide)) (cwV 1 hts gX5_isWet_X5_averageOf rfl rfl rfl (by decide +kernel) ⟨Nat.le_of_ble_eq_true rfl, Nat.le_of_ble_eq_true rfl⟩) (hE.2.1 15 (by decide) (by decide)) (cq_mo E _) rfl rfl hl.1 [] rfl (Nat.le_of_ble_eq_true rfl) dX5_isWet_13 ⟨Nat.zero_le _, Nat.zero_le _⟩ (fun H locs hH => ?_)
    refine lv_iload_n hx hb dX5_isWet_16 rfl (lv_at hl 2 rfl) ?_
    refine lv_icmp_le (tgt := 24) hx hb dX5_isWet_17 (by decide) (fun c2 => ?_) (fun c2 => ?_)
    · skip
      refine lv_iconst (v := 0) hx hb dX5_isWet_24 (by decide) ?_
      exact g_zret F hr hlk hH (by rfl) (by first | (exact (if_pos h0).symm) | (unfold mwt; rw [if_neg h0]; first | exact (if_pos c2).symm | exact (if_neg c2).symm)) rfl dX5_isWet_25
    · skip
      refine lv_iconst (v := 1) hx hb dX5_isWet_20 (by decide) ?_
      refine lv_goto (tgt := 25) hx hb dX5_isWet_21 (by decide) ?_
      exact g_zret F hr hlk hH (by rfl) (by first | (exact (if_pos h0).symm) | (unfold mwt; rw [if_neg h0]; first | exact (if_pos c2).symm | exact (if_neg c2).symm)) rfl dX5_isWet_25

set_option maxHeartbeats 4000000 in
set_option maxRecDepth 100000 in
theorem c_X5_runSchedule (l : Launch) (E : Ev) (hE : EO E) (v : Mem) (a : Int32) (b : Int32) (ns : Nat) (hns : v 15 16 = nI ns) (h8 : ns ≤ 8) (hcap : ¬ v 15 7 = 0) : Ci l yX5_runSchedule wsX5_runSchedule ({ frames := 4, cells := 0, slots := 0, locals := 89 } : Room) E [.ref (eAd E 15), .int a, .int b] v (msdr E v ns a b) (msdm E v ns a b) := by
  refine Ci.of (cc := cX5_runSchedule) (maxL := 5) (ret := (some .int)) (own := RX5) (by decide) rfl rfl (Nat.le_of_ble_eq_true rfl) ?_
  intro p e s m below meth c F hr hlk ls hl hH
  obtain ⟨hx, hb, hml, hown, hts⟩ := id F.1
  have hl : lv_has ls 5 [(0, .ref (eAd E 15)), (1, .int a), (2, .int b)] := hl
  have inX5 : ∀ w ∈ wsX50, w ∈ wsX5_runSchedule := fun w h => List.mem_cons_of_mem _ (List.mem_append_right _ h)
  refine lv_iload_n hx hb dX5_runSchedule_0 rfl (lv_at hl 1 rfl) ?_
  refine lv_iconst (v := 0) hx hb dX5_runSchedule_1 (by decide) ?_
  refine lv_sipush (v := 2000) hx hb dX5_runSchedule_2 (by decide) ?_
  refine g_si (As := [.int a, .int 0, .int 2000]) F hH (c_X5_isBetween l E hE v a 0 2000) (va_cwS 3 hts gX5_runSchedule_X5_isBetween rfl rfl rfl (by decide +kernel) ⟨Nat.le_of_ble_eq_true rfl, Nat.le_of_ble_eq_true rfl⟩) rfl hl.1 [] rfl (Nat.le_of_ble_eq_true rfl) dX5_runSchedule_5 ⟨Nat.zero_le _, Nat.zero_le _⟩ (fun H locs hH => ?_)
  refine lv_if_eq (tgt := 22) hx hb dX5_runSchedule_8 (by decide) (fun c1 => ?_) (fun c1 => ?_)
  · skip
    refine lv_ldc (v := -1000003) hx hb hown (hts (.constant RX5 66 (-1000003)) (by decide +kernel)) dX5_runSchedule_22 ?_
    exact g_iret F hr hlk hH (by first | (simp only [msdr, c1, if_true, if_false, ↓reduceIte]; done) | (simp only [msdr, c1, if_true, if_false, ↓reduceIte]; rw [hw3]; simp only [mrn, c1, if_true, ↓reduceIte, Nat.add_zero])) (by first | (simp only [msdm, c1, if_true, if_false, ↓reduceIte]; done) | (simp only [msdm, c1, if_true, if_false, ↓reduceIte]; rw [hw2]; simp only [mrn, c1, if_true, ↓reduceIte])) dX5_runSchedule_24
  · skip
    refine lv_iload_n hx hb dX5_runSchedule_11 rfl (lv_at hl 2 rfl) ?_
    refine lv_iconst (v := 1) hx hb dX5_runSchedule_12 (by decide) ?_
    refine lv_sipush (v := 200) hx hb dX5_runSchedule_13 (by decide) ?_
    refine g_si (As := [.int b, .int 1, .int 200]) F hH (c_X5_isBetween l E hE v b 1 200) (va_cwS 3 hts gX5_runSchedule_X5_isBetween rfl rfl rfl (by decide +kernel) ⟨Nat.le_of_ble_eq_true rfl, Nat.le_of_ble_eq_true rfl⟩) rfl hl.1 [] rfl (Nat.le_of_ble_eq_true rfl) dX5_runSchedule_16 ⟨Nat.zero_le _, Nat.zero_le _⟩ (fun H locs hH => ?_)
    refine lv_if_ne (tgt := 25) hx hb dX5_runSchedule_19 (by decide) (fun c2 => ?_) (fun c2 => ?_)
    · skip
      obtain ⟨N, hN, rfl⟩ := btw_200 c2
      have hcl : (nI N).toNatClampNeg = N := nI_clamp (by omega)
      refine lv_iconst (v := 0) hx hb dX5_runSchedule_25 (by decide) ?_
      refine lv_istore_n (lv' := [(3, .int 0), (0, .ref (eAd E 15)), (1, .int a), (2, .int (nI N))]) hx hb dX5_runSchedule_26 rfl hl (by decide) rfl (fun ls hl => ?_)
      have loop27 : ∀ (n t : Nat), t + n = N → ∀ (w : Mem), w 15 16 = nI ns → ¬ w 15 7 = 0 → (mrn E ns a N v).1 = (mrn E ns a n w).1 → (mrn E ns a N v).2 = t + (mrn E ns a n w).2 → ∀ (H : Heap) (locs : List Loc) (ls : Array Slot), HS E s.heap w H locs → lv_has ls 5 [(0, .ref (eAd E 15)), (1, .int a), (2, .int (nI N)), (3, .int (nI t))] → W p l e ({ frames := 4, cells := 0, slots := 0, locals := 89 } : Room) s m ([.ref (eAd E 15), .int a, .int (nI N)] : List Value).toArray below meth c H locs 0 0 (Zi below E ([.ref (eAd E 15), .int a, .int (nI N)] : List Value).toArray s (msdr E v ns a (nI N)) (msdm E v ns a (nI N))) (F0 m 27 ls []) := by
        intro n
        induction n with
        | zero =>
          intro t ht w hw1 hwc hw2 hw3 H locs ls hH hl
          obtain rfl : N = t := by omega
          refine lv_iload_n hx hb dX5_runSchedule_27 rfl (lv_at hl 3 rfl) ?_
          refine lv_iload_n hx hb dX5_runSchedule_28 rfl (lv_at hl 2 rfl) ?_
          refine lv_icmp_ge (tgt := 78) hx hb dX5_runSchedule_29 (by decide) (fun c3 => ?_) (fun c3 => ?_)
          · skip
            refine lv_iload_n hx hb dX5_runSchedule_78 rfl (lv_at hl 3 rfl) ?_
            exact g_iret F hr hlk hH (by first | (simp only [msdr, c1, c2, hcl, c3, if_true, if_false, ↓reduceIte]; done) | (simp only [msdr, c1, c2, hcl, c3, if_true, if_false, ↓reduceIte]; rw [hw3]; simp only [mrn, c1, c2, hcl, c3, if_true, ↓reduceIte, Nat.add_zero])) (by first | (simp only [msdm, c1, c2, hcl, c3, if_true, if_false, ↓reduceIte]; done) | (simp only [msdm, c1, c2, hcl, c3, if_true, if_false, ↓reduceIte]; rw [hw2]; simp only [mrn, c1, c2, hcl, c3, if_true, ↓reduceIte])) dX5_runSchedule_79
          · skip
            exact absurd (nI_le (Nat.le_refl _) (by omega)) c3
        | succ n ih =>
          intro t ht w hw1 hwc hw2 hw3 H locs ls hH hl
          have htN : t < N := by omega
          refine lv_iload_n hx hb dX5_runSchedule_27 rfl (lv_at hl 3 rfl) ?_
          refine lv_iload_n hx hb dX5_runSchedule_28 rfl (lv_at hl 2 rfl) ?_
          refine lv_icmp_ge (tgt := 78) hx hb dX5_runSchedule_29 (by decide) (fun c4 => ?_) (fun c4 => ?_)
          · skip
            exact absurd c4 (nI_ge htN (by omega))
          · skip
            refine lv_aload_n hx hb dX5_runSchedule_32 rfl (lv_at hl 0 rfl) ?_
            refine lv_iload_n hx hb dX5_runSchedule_33 rfl (lv_at hl 1 rfl) ?_
            refine g_vi (As := [.int a]) F hH (c_X5_isWet l E hE w a) (cwV 1 hts gX5_runSchedule_X5_isWet rfl rfl rfl (by decide +kernel) ⟨Nat.le_of_ble_eq_true rfl, Nat.le_of_ble_eq_true rfl⟩) (hE.2.1 15 (by decide) (by decide)) (cq_mo E _) rfl rfl hl.1 [] rfl (Nat.le_of_ble_eq_true rfl) dX5_runSchedule_34 ⟨Nat.zero_le _, Nat.zero_le _⟩ (fun H locs hH => ?_)
            refine lv_if_eq (tgt := 78) hx hb dX5_runSchedule_37 (by decide) (fun c5 => ?_) (fun c5 => ?_)
            · skip
              refine lv_iload_n hx hb dX5_runSchedule_78 rfl (lv_at hl 3 rfl) ?_
              exact g_iret F hr hlk hH (by first | (simp only [msdr, c1, c2, hcl, c4, c5, if_true, if_false, ↓reduceIte]; done) | (simp only [msdr, c1, c2, hcl, c4, c5, if_true, if_false, ↓reduceIte]; rw [hw3]; simp only [mrn, c1, c2, hcl, c4, c5, if_true, ↓reduceIte, Nat.add_zero])) (by first | (simp only [msdm, c1, c2, hcl, c4, c5, if_true, if_false, ↓reduceIte]; done) | (simp only [msdm, c1, c2, hcl, c4, c5, if_true, if_false, ↓reduceIte]; rw [hw2]; simp only [mrn, c1, c2, hcl, c4, c5, if_true, ↓reduceIte])) dX5_runSchedule_79
            · skip
              refine lv_aload_n hx hb dX5_runSchedule_40 rfl (lv_at hl 0 rfl) ?_
              refine g_vi (As := []) F hH (c_X5_stageNow l E hE w ns hw1 h8) (cwV 0 hts gX5_runSchedule_X5_stageNow rfl rfl rfl (by decide +kernel) ⟨Nat.le_of_ble_eq_true rfl, Nat.le_of_ble_eq_true rfl⟩) (hE.2.1 15 (by decide) (by decide)) (cq_mo E _) rfl rfl hl.1 [] rfl (Nat.le_of_ble_eq_true rfl) dX5_runSchedule_41 ⟨Nat.zero_le _, Nat.zero_le _⟩ (fun H locs hH => ?_)
              refine lv_istore (lv' := [(4, .int (mcsx E w ns)), (0, .ref (eAd E 15)), (1, .int a), (2, .int (nI N)), (3, .int (nI t))]) hx hb dX5_runSchedule_44 hl (by decide) rfl (fun ls hl => ?_)
              refine lv_aload_n hx hb dX5_runSchedule_46 rfl (lv_at hl 1 rfl) ?_
              refine lv_iload hx hb dX5_runSchedule_47 (lv_at hl 0 rfl) ?_
              refine lv_ldc (v := -1000005) hx hb hown (hts (.constant RX5 68 (-1000005)) (by decide +kernel)) dX5_runSchedule_49 ?_
              refine lv_icmp_ne (tgt := 61) hx hb dX5_runSchedule_51 (by decide) (fun c6 => ?_) (fun c6 => ?_)
              · skip
                obtain ⟨q, hq, hqe⟩ := mcsx_ix c6
                refine lv_aload_n hx hb dX5_runSchedule_61 rfl (lv_at hl 1 rfl) ?_
                refine g_get (x := .ref (eAd E 22)) F hH inX5 (hE.2.1 15 (by decide) (by decide)) (cq_mo E _) rfl 18 (by decide) (hts (.fieldLink RX5 41 "DryingKilnModel" "inletOf" "[I") (by decide +kernel)) (fun _ h => h) rfl dX5_runSchedule_62 ?_
                refine lv_iload hx hb dX5_runSchedule_65 (lv_at hl 0 rfl) ?_
                refine g_iald (n := 8) (x := w 22 (mcsx E w ns).toNatClampNeg) F hH (hE.2.1 22 (by decide) (by decide)) rfl q hqe (by omega) (by omega) (by rw [hqe, nI_clamp (by omega)]) dX5_runSchedule_67 ?_
                refine g_vi (As := [.int (w 22 (mcsx E w ns).toNatClampNeg)]) F hH (c_X5_dryHour l E hE w (w 22 (mcsx E w ns).toNatClampNeg) hwc) (cwV 1 hts gX5_runSchedule_X5_dryHour rfl rfl rfl (by decide +kernel) ⟨Nat.le_of_ble_eq_true rfl, Nat.le_of_ble_eq_true rfl⟩) (hE.2.1 15 (by decide) (by decide)) (cq_mo E _) rfl rfl hl.1 [] rfl (Nat.le_of_ble_eq_true rfl) dX5_runSchedule_68 ⟨Nat.zero_le _, Nat.zero_le _⟩ (fun H locs hH => ?_)
                refine lv_pop hx hb dX5_runSchedule_71 rfl ?_
                refine lv_iinc (v := nI (t + 1)) (lv' := [(3, .int (nI (t + 1))), (4, .int (mcsx E w ns)), (0, .ref (eAd E 15)), (1, .int a), (2, .int (nI N))]) hx hb dX5_runSchedule_72 hl (k := 4) rfl (nI_1 _) (by decide) rfl (fun ls hl => ?_)
                refine lv_goto (tgt := 27) hx hb dX5_runSchedule_75 (by decide) ?_
                exact ih (t + 1) (by omega) (mdh E (msi E w ns) w) (by rw [mdh_15 E _ _ (by decide) (by decide) (by decide) (by decide)]; exact hw1) (by rw [mdh_15 E _ _ (by decide) (by decide) (by decide) (by decide)]; exact hwc) (by rw [hw2]; simp only [mrn, c1, c2, hcl, c4, c5, c6, if_false, ↓reduceIte]) (by rw [hw3]; simp only [mrn, c1, c2, hcl, c4, c5, c6, if_false, ↓reduceIte]; omega) _ _ ls (by unfold msi; first | (rw [if_pos c6]; exact hH) | (rw [if_neg c6]; exact hH)) (by first | exact lv_sub hl [2, 3, 4, 0] rfl | (have h := lv_sub hl [2, 3, 4, 0] rfl; simp only [c1, c2, hcl, c4, c5, c6, if_true, if_false, ↓reduceIte]; exact h))
              · skip
                refine lv_aload_n hx hb dX5_runSchedule_54 rfl (lv_at hl 1 rfl) ?_
                refine g_get (x := .int (w 15 9)) F hH inX5 (hE.2.1 15 (by decide) (by decide)) (cq_mo E _) rfl 9 (by decide) (hts (.fieldLink RX5 32 "DryingKilnModel" "humidityNow" "I") (by decide +kernel)) (fun _ h => h) rfl dX5_runSchedule_55 ?_
                refine lv_goto (tgt := 68) hx hb dX5_runSchedule_58 (by decide) ?_
                refine g_vi (As := [.int (w 15 9)]) F hH (c_X5_dryHour l E hE w (w 15 9) hwc) (cwV 1 hts gX5_runSchedule_X5_dryHour rfl rfl rfl (by decide +kernel) ⟨Nat.le_of_ble_eq_true rfl, Nat.le_of_ble_eq_true rfl⟩) (hE.2.1 15 (by decide) (by decide)) (cq_mo E _) rfl rfl hl.1 [] rfl (Nat.le_of_ble_eq_true rfl) dX5_runSchedule_68 ⟨Nat.zero_le _, Nat.zero_le _⟩ (fun H locs hH => ?_)
                refine lv_pop hx hb dX5_runSchedule_71 rfl ?_
                refine lv_iinc (v := nI (t + 1)) (lv' := [(3, .int (nI (t + 1))), (4, .int (mcsx E w ns)), (0, .ref (eAd E 15)), (1, .int a), (2, .int (nI N))]) hx hb dX5_runSchedule_72 hl (k := 4) rfl (nI_1 _) (by decide) rfl (fun ls hl => ?_)
                refine lv_goto (tgt := 27) hx hb dX5_runSchedule_75 (by decide) ?_
                exact ih (t + 1) (by omega) (mdh E (msi E w ns) w) (by rw [mdh_15 E _ _ (by decide) (by decide) (by decide) (by decide)]; exact hw1) (by rw [mdh_15 E _ _ (by decide) (by decide) (by decide) (by decide)]; exact hwc) (by rw [hw2]; simp only [mrn, c1, c2, hcl, c4, c5, c6, if_false, ↓reduceIte]) (by rw [hw3]; simp only [mrn, c1, c2, hcl, c4, c5, c6, if_false, ↓reduceIte]; omega) _ _ ls (by unfold msi; first | (rw [if_pos c6]; exact hH) | (rw [if_neg c6]; exact hH)) (by first | exact lv_sub hl [2, 3, 4, 0] rfl | (have h := lv_sub hl [2, 3, 4, 0] rfl; simp only [c1, c2, hcl, c4, c5, c6, if_true, if_false, ↓reduceIte]; exact h))
      exact loop27 N 0 (Nat.zero_add _) v hns hcap rfl (Nat.zero_add _).symm _ _ ls hH (lv_sub hl [1, 2, 3, 0] rfl)
    · skip
      refine lv_ldc (v := -1000003) hx hb hown (hts (.constant RX5 66 (-1000003)) (by decide +kernel)) dX5_runSchedule_22 ?_
      exact g_iret F hr hlk hH (by first | (simp only [msdr, c1, c2, if_true, if_false, ↓reduceIte]; done) | (simp only [msdr, c1, c2, if_true, if_false, ↓reduceIte]; rw [hw3]; simp only [mrn, c1, c2, if_true, ↓reduceIte, Nat.add_zero])) (by first | (simp only [msdm, c1, c2, if_true, if_false, ↓reduceIte]; done) | (simp only [msdm, c1, c2, if_true, if_false, ↓reduceIte]; rw [hw2]; simp only [mrn, c1, c2, if_true, ↓reduceIte])) dX5_runSchedule_24

set_option maxHeartbeats 4000000 in
set_option maxRecDepth 100000 in
theorem c_X5_copy (l : Launch) (E : Ev) (hE : EO E) (v : Mem) (ka : Nat) (kb : Nat) (N : Nat) (hka : ka ∈ eK E) (hea : ∀ g, celq E g ka = .inl (eI E, N, .inl g)) (hkb : kb ∈ eK E) (heb : ∀ g, celq E g kb = .inl (eI E, N, .inl g)) (hab : ka ≠ kb) (hN : N < 1000) : Cv l yX5_copy wsX5_copy ({ frames := 0, cells := 0, slots := 0, locals := 0 } : Room) E [.ref (eAd E ka), .ref (eAd E kb), .int (nI N)] v (mcpy v ka kb N) := by
  refine Cv.of (cc := cX5_copy) (maxL := 4) (ret := none) (own := RX5) (by decide) rfl rfl (Nat.le_of_ble_eq_true rfl) ?_
  intro p e s m below meth c F hr hlk ls hl hH
  obtain ⟨hx, hb, hml, hown, hts⟩ := id F.1
  have hl : lv_has ls 4 [(0, .ref (eAd E ka)), (1, .ref (eAd E kb)), (2, .int (nI N))] := hl
  refine lv_iconst (v := 0) hx hb dX5_copy_0 (by decide) ?_
  refine lv_istore_n (lv' := [(3, .int 0), (0, .ref (eAd E ka)), (1, .ref (eAd E kb)), (2, .int (nI N))]) hx hb dX5_copy_1 rfl hl (by decide) rfl (fun ls hl => ?_)
  have loop2 : ∀ (n t : Nat), t + n = N → ∀ (H : Heap) (locs : List Loc) (ls : Array Slot), HS E s.heap (mcpy v ka kb t) H locs → lv_has ls 4 [(0, .ref (eAd E ka)), (1, .ref (eAd E kb)), (2, .int (nI N)), (3, .int (nI t))] → W p l e ({ frames := 0, cells := 0, slots := 0, locals := 0 } : Room) s m ([.ref (eAd E ka), .ref (eAd E kb), .int (nI N)] : List Value).toArray below meth c H locs 0 0 (Zv below E ([.ref (eAd E ka), .ref (eAd E kb), .int (nI N)] : List Value).toArray s (mcpy v ka kb N)) (F0 m 2 ls []) := by
    intro n
    induction n with
    | zero =>
      intro t ht H locs ls hH hl
      obtain rfl : N = t := by omega
      refine lv_iload_n hx hb dX5_copy_2 rfl (lv_at hl 3 rfl) ?_
      refine lv_iload_n hx hb dX5_copy_3 rfl (lv_at hl 2 rfl) ?_
      refine lv_icmp_ge (tgt := 19) hx hb dX5_copy_4 (by decide) (fun c1 => ?_) (fun c1 => ?_)
      · skip
        exact g_vret F hr hlk hH rfl dX5_copy_19
      · skip
        exact absurd (nI_le (Nat.le_refl _) (by omega)) c1
    | succ n ih =>
      intro t ht H locs ls hH hl
      have htN : t < N := by omega
      refine lv_iload_n hx hb dX5_copy_2 rfl (lv_at hl 3 rfl) ?_
      refine lv_iload_n hx hb dX5_copy_3 rfl (lv_at hl 2 rfl) ?_
      refine lv_icmp_ge (tgt := 19) hx hb dX5_copy_4 (by decide) (fun c2 => ?_) (fun c2 => ?_)
      · skip
        exact absurd c2 (nI_ge htN (by omega))
      · skip
        refine lv_aload_n hx hb dX5_copy_7 rfl (lv_at hl 1 rfl) ?_
        refine lv_iload_n hx hb dX5_copy_8 rfl (lv_at hl 3 rfl) ?_
        refine lv_aload_n hx hb dX5_copy_9 rfl (lv_at hl 0 rfl) ?_
        refine lv_iload_n hx hb dX5_copy_10 rfl (lv_at hl 3 rfl) ?_
        refine g_iald (n := N) (x := v ka t) F hH hka (hea _) t rfl (by omega) (by omega) (congrFun (up_ne _ _ hab) _) dX5_copy_11 ?_
        refine g_iast (n := N) F hH hkb heb t rfl (by omega) (by omega) dX5_copy_12 (fun H locs hH => ?_)
        rw [show st (mcpy v ka kb t) kb t (v ka t) = mcpy v ka kb (t + 1) from mcpy_s v ka kb t] at hH
        refine lv_iinc (v := nI (t + 1)) (lv' := [(3, .int (nI (t + 1))), (0, .ref (eAd E ka)), (1, .ref (eAd E kb)), (2, .int (nI N))]) hx hb dX5_copy_13 hl (k := 3) rfl (nI_1 _) (by decide) rfl (fun ls hl => ?_)
        refine lv_goto (tgt := 2) hx hb dX5_copy_16 (by decide) ?_
        exact ih (t + 1) (by omega) _ _ ls (by first | exact hH | (simp only [c2, if_true, if_false, ↓reduceIte]; exact hH)) (by first | exact lv_sub hl [1, 2, 3, 0] rfl | (have h := lv_sub hl [1, 2, 3, 0] rfl; simp only [c2, if_true, if_false, ↓reduceIte]; exact h))
  exact loop2 N 0 (Nat.zero_add _) _ _ ls (by rw [mcpy_0]; exact hH) (lv_sub hl [1, 2, 3, 0] rfl)

set_option maxHeartbeats 4000000 in
set_option maxRecDepth 100000 in
theorem c_X5_isStrained (l : Launch) (E : Ev) (hE : EO E) (v : Mem) : Ci l yX5_isStrained wsX5_isStrained ({ frames := 1, cells := 0, slots := 0, locals := 24 } : Room) E [.ref (eAd E 15)] v (mis E v (eNb E 3) 0) v := by
  refine Ci.of (cc := cX5_isStrained) (maxL := 2) (ret := (some .boolean)) (own := RX5) (by decide) rfl rfl (Nat.le_of_ble_eq_true rfl) ?_
  intro p e s m below meth c F hr hlk ls hl hH
  obtain ⟨hx, hb, hml, hown, hts⟩ := id F.1
  have hl : lv_has ls 2 [(0, .ref (eAd E 15))] := hl
  have inX5 : ∀ w ∈ wsX50, w ∈ wsX5_isStrained := fun w h => List.mem_cons_of_mem _ (List.mem_append_right _ h)
  have hnb := hE.2.2.2.2.1 3 (by decide)
  have hm4 := hE.2.2.2.2.2.2
  refine lv_iconst (v := 0) hx hb dX5_isStrained_0 (by decide) ?_
  refine lv_istore_n (lv' := [(1, .int 0), (0, .ref (eAd E 15))]) hx hb dX5_isStrained_1 rfl hl (by decide) rfl (fun ls hl => ?_)
  have loop2 : ∀ (n t : Nat), t + n = eNb E 3 → mis E v (eNb E 3) 0 = mis E v n t → ∀ (H : Heap) (locs : List Loc) (ls : Array Slot), HS E s.heap v H locs → lv_has ls 2 [(0, .ref (eAd E 15)), (1, .int (nI t))] → W p l e ({ frames := 1, cells := 0, slots := 0, locals := 24 } : Room) s m ([.ref (eAd E 15)] : List Value).toArray below meth c H locs 0 0 (Zi below E ([.ref (eAd E 15)] : List Value).toArray s (mis E v (eNb E 3) 0) v) (F0 m 2 ls []) := by
    intro n
    induction n with
    | zero =>
      intro t ht hw H locs ls hH hl
      obtain rfl : eNb E 3 = t := by omega
      refine lv_iload_n hx hb dX5_isStrained_2 rfl (lv_at hl 1 rfl) ?_
      refine lv_aload_n hx hb dX5_isStrained_3 rfl (lv_at hl 0 rfl) ?_
      refine g_get (x := .int (nI (eNb E 3))) F hH inX5 (hE.2.1 15 (by decide) (by decide)) (cq_mo E _) rfl 0 (by decide) (hts (.fieldLink RX5 59 "DryingKilnModel" "boards" "I") (by decide +kernel)) (fun _ h => h) rfl dX5_isStrained_4 ?_
      refine lv_icmp_ge (tgt := 30) hx hb dX5_isStrained_7 (by decide) (fun c1 => ?_) (fun c1 => ?_)
      · skip
        refine lv_iconst (v := 0) hx hb dX5_isStrained_30 (by decide) ?_
        exact g_zret F hr hlk hH (by rfl) (by rw [hw]; first | rfl | exact (if_neg c1).symm) rfl dX5_isStrained_31
      · skip
        exact absurd (nI_le (Nat.le_refl _) (by omega)) c1
    | succ n ih =>
      intro t ht hw H locs ls hH hl
      have htN : t < eNb E 3 := by omega
      refine lv_iload_n hx hb dX5_isStrained_2 rfl (lv_at hl 1 rfl) ?_
      refine lv_aload_n hx hb dX5_isStrained_3 rfl (lv_at hl 0 rfl) ?_
      refine g_get (x := .int (nI (eNb E 3))) F hH inX5 (hE.2.1 15 (by decide) (by decide)) (cq_mo E _) rfl 0 (by decide) (hts (.fieldLink RX5 59 "DryingKilnModel" "boards" "I") (by decide +kernel)) (fun _ h => h) rfl dX5_isStrained_4 ?_
      refine lv_icmp_ge (tgt := 30) hx hb dX5_isStrained_7 (by decide) (fun c2 => ?_) (fun c2 => ?_)
      · skip
        exact absurd c2 (nI_ge htN (by omega))
      · skip
        refine lv_aload_n hx hb dX5_isStrained_10 rfl (lv_at hl 0 rfl) ?_
        refine lv_iload_n hx hb dX5_isStrained_11 rfl (lv_at hl 1 rfl) ?_
        refine g_vi (As := [.int (nI t)]) F hH (c_X5_strainOf l E hE v t (by first | assumption | omega | decide)) (cwV 1 hts gX5_isStrained_X5_strainOf rfl rfl rfl (by decide +kernel) ⟨Nat.le_of_ble_eq_true rfl, Nat.le_of_ble_eq_true rfl⟩) (hE.2.1 15 (by decide) (by decide)) (cq_mo E _) rfl rfl hl.1 [] rfl (Nat.le_of_ble_eq_true rfl) dX5_isStrained_12 ⟨Nat.zero_le _, Nat.zero_le _⟩ (fun H locs hH => ?_)
        refine lv_aload_n hx hb dX5_isStrained_15 rfl (lv_at hl 0 rfl) ?_
        refine g_get (x := .int (v 15 8)) F hH inX5 (hE.2.1 15 (by decide) (by decide)) (cq_mo E _) rfl 8 (by decide) (hts (.fieldLink RX5 29 "DryingKilnModel" "limitNow" "I") (by decide +kernel)) (fun _ h => h) rfl dX5_isStrained_16 ?_
        refine lv_icmp_le (tgt := 24) hx hb dX5_isStrained_19 (by decide) (fun c3 => ?_) (fun c3 => ?_)
        · skip
          refine lv_iinc (v := nI (t + 1)) (lv' := [(1, .int (nI (t + 1))), (0, .ref (eAd E 15))]) hx hb dX5_isStrained_24 hl (k := 1) rfl (nI_1 _) (by decide) rfl (fun ls hl => ?_)
          refine lv_goto (tgt := 2) hx hb dX5_isStrained_27 (by decide) ?_
          exact ih (t + 1) (by omega) (hw.trans (if_pos c3)) _ _ ls (by first | exact hH | (simp only [c2, c3, if_true, if_false, ↓reduceIte]; exact hH)) (by first | exact lv_sub hl [1, 0] rfl | (have h := lv_sub hl [1, 0] rfl; simp only [c2, c3, if_true, if_false, ↓reduceIte]; exact h))
        · skip
          refine lv_iconst (v := 1) hx hb dX5_isStrained_22 (by decide) ?_
          exact g_zret F hr hlk hH (by rfl) (by rw [hw]; first | rfl | exact (if_neg c3).symm) rfl dX5_isStrained_23
  exact loop2 (eNb E 3) 0 (Nat.zero_add _) rfl _ _ ls hH (lv_sub hl [1, 0] rfl)

set_option maxHeartbeats 4000000 in
set_option maxRecDepth 100000 in
theorem c_X5_planHour (l : Launch) (E : Ev) (hE : EO E) (v : Mem) (hcap : ¬ v 15 7 = 0) : Ci l yX5_planHour wsX5_planHour ({ frames := 2, cells := 0, slots := 0, locals := 51 } : Room) E [.ref (eAd E 15)] v ((mpl E v).2) ((mpl E v).1) := by
  refine Ci.of (cc := cX5_planHour) (maxL := 2) (ret := (some .int)) (own := RX5) (by decide) rfl rfl (Nat.le_of_ble_eq_true rfl) ?_
  intro p e s m below meth c F hr hlk ls hl hH
  obtain ⟨hx, hb, hml, hown, hts⟩ := id F.1
  have hl : lv_has ls 2 [(0, .ref (eAd E 15))] := hl
  have inX5 : ∀ w ∈ wsX50, w ∈ wsX5_planHour := fun w h => List.mem_cons_of_mem _ (List.mem_append_right _ h)
  refine lv_aload_n hx hb dX5_planHour_0 rfl (lv_at hl 0 rfl) ?_
  refine g_get (x := .ref (eAd E 17)) F hH inX5 (hE.2.1 15 (by decide) (by decide)) (cq_mo E _) rfl 2 (by decide) (hts (.fieldLink RX5 13 "DryingKilnModel" "cells" "[I") (by decide +kernel)) (fun _ h => h) rfl dX5_planHour_1 ?_
  refine lv_aload_n hx hb dX5_planHour_4 rfl (lv_at hl 0 rfl) ?_
  refine g_get (x := .ref (eAd E 25)) F hH inX5 (hE.2.1 15 (by decide) (by decide)) (cq_mo E _) rfl 21 (by decide) (hts (.fieldLink RX5 50 "DryingKilnModel" "hourCells" "[I") (by decide +kernel)) (fun _ h => h) rfl dX5_planHour_5 ?_
  refine lv_bipush (v := 54) hx hb dX5_planHour_8 (by decide) ?_
  refine g_sv (As := [.ref (eAd E 17), .ref (eAd E 25), .int 54]) F hH (c_X5_copy l E hE v 17 25 54 (hE.2.1 17 (by decide) (by decide)) (fun _ => rfl) (hE.2.1 25 (by decide) (by decide)) (fun _ => rfl) (by decide) (by decide)) (va_cwS 3 hts gX5_planHour_X5_copy rfl rfl rfl (by decide +kernel) ⟨Nat.le_of_ble_eq_true rfl, Nat.le_of_ble_eq_true rfl⟩) rfl hl.1 [] rfl (Nat.le_of_ble_eq_true rfl) dX5_planHour_10 ⟨Nat.zero_le _, Nat.zero_le _⟩ (fun H locs hH => ?_)
  refine lv_iconst (v := 0) hx hb dX5_planHour_13 (by decide) ?_
  refine lv_istore_n (lv' := [(1, .int 0), (0, .ref (eAd E 15))]) hx hb dX5_planHour_14 rfl hl (by decide) rfl (fun ls hl => ?_)
  have loop15 : ∀ (n t : Nat), t + n = 31 → ∀ (w : Mem), ¬ w 15 7 = 0 → mph E 31 0 (mcpy v 17 25 54) = mph E n t w → ∀ (H : Heap) (locs : List Loc) (ls : Array Slot), HS E s.heap w H locs → lv_has ls 2 [(0, .ref (eAd E 15)), (1, .int (nI (10 * t)))] → W p l e ({ frames := 2, cells := 0, slots := 0, locals := 51 } : Room) s m ([.ref (eAd E 15)] : List Value).toArray below meth c H locs 0 0 (Zi below E ([.ref (eAd E 15)] : List Value).toArray s ((mpl E v).2) ((mpl E v).1)) (F0 m 15 ls []) := by
    intro n
    induction n with
    | zero =>
      intro t ht w hwc hw2 H locs ls hH hl
      obtain rfl : 31 = t := by omega
      refine lv_iload_n hx hb dX5_planHour_15 rfl (lv_at hl 1 rfl) ?_
      refine lv_sipush (v := 300) hx hb dX5_planHour_16 (by decide) ?_
      refine lv_icmp_gt (tgt := 60) hx hb dX5_planHour_19 (by decide) (fun c1 => ?_) (fun c1 => ?_)
      · skip
        refine lv_aload_n hx hb dX5_planHour_60 rfl (lv_at hl 0 rfl) ?_
        refine g_vv (As := []) F hH (c_X5_restAll l E hE w) (cwV 0 hts gX5_planHour_X5_restAll rfl rfl rfl (by decide +kernel) ⟨Nat.le_of_ble_eq_true rfl, Nat.le_of_ble_eq_true rfl⟩) (hE.2.1 15 (by decide) (by decide)) (cq_mo E _) rfl rfl hl.1 [] rfl (Nat.le_of_ble_eq_true rfl) dX5_planHour_61 ⟨Nat.zero_le _, Nat.zero_le _⟩ (fun H locs hH => ?_)
        refine lv_ldc (v := -1000006) hx hb hown (hts (.constant RX5 148 (-1000006)) (by decide +kernel)) dX5_planHour_64 ?_
        exact g_iret F hr hlk hH (by rw [mpl, hw2]; first | rfl | exact (congrArg Prod.snd (mph_go E n t w c1)).symm) (by rw [mpl, hw2]; first | rfl | exact (congrArg Prod.fst (mph_go E n t w c1)).symm) dX5_planHour_66
      · skip
        exact absurd (by decide) c1
    | succ n ih =>
      intro t ht w hwc hw2 H locs ls hH hl
      have htN : t < 31 := by omega
      refine lv_iload_n hx hb dX5_planHour_15 rfl (lv_at hl 1 rfl) ?_
      refine lv_sipush (v := 300) hx hb dX5_planHour_16 (by decide) ?_
      refine lv_icmp_gt (tgt := 60) hx hb dX5_planHour_19 (by decide) (fun c2 => ?_) (fun c2 => ?_)
      · skip
        exact absurd c2 (nI_nlt (a := 300) (by omega) (by omega))
      · skip
        refine lv_aload_n hx hb dX5_planHour_22 rfl (lv_at hl 0 rfl) ?_
        refine lv_iload_n hx hb dX5_planHour_23 rfl (lv_at hl 1 rfl) ?_
        refine g_vi (As := [.int (nI (10 * t))]) F hH (c_X5_blow l E hE w (nI (10 * t)) hwc) (cwV 1 hts gX5_planHour_X5_blow rfl rfl rfl (by decide +kernel) ⟨Nat.le_of_ble_eq_true rfl, Nat.le_of_ble_eq_true rfl⟩) (hE.2.1 15 (by decide) (by decide)) (cq_mo E _) rfl rfl hl.1 [] rfl (Nat.le_of_ble_eq_true rfl) dX5_planHour_24 ⟨Nat.zero_le _, Nat.zero_le _⟩ (fun H locs hH => ?_)
        refine lv_pop hx hb dX5_planHour_27 rfl ?_
        refine lv_aload_n hx hb dX5_planHour_28 rfl (lv_at hl 0 rfl) ?_
        refine g_vi (As := []) F hH (c_X5_isStrained l E hE (mblm E (nI (10 * t)) w)) (cwV 0 hts gX5_planHour_X5_isStrained rfl rfl rfl (by decide +kernel) ⟨Nat.le_of_ble_eq_true rfl, Nat.le_of_ble_eq_true rfl⟩) (hE.2.1 15 (by decide) (by decide)) (cq_mo E _) rfl rfl hl.1 [] rfl (Nat.le_of_ble_eq_true rfl) dX5_planHour_29 ⟨Nat.zero_le _, Nat.zero_le _⟩ (fun H locs hH => ?_)
        refine lv_if_ne (tgt := 41) hx hb dX5_planHour_32 (by decide) (fun c3 => ?_) (fun c3 => ?_)
        · skip
          refine lv_aload_n hx hb dX5_planHour_41 rfl (lv_at hl 0 rfl) ?_
          refine g_get (x := .ref (eAd E 25)) F hH inX5 (hE.2.1 15 (by decide) (by decide)) (cq_mo E _) rfl 21 (by decide) (hts (.fieldLink RX5 50 "DryingKilnModel" "hourCells" "[I") (by decide +kernel)) (fun _ h => h) rfl dX5_planHour_42 ?_
          refine lv_aload_n hx hb dX5_planHour_45 rfl (lv_at hl 0 rfl) ?_
          refine g_get (x := .ref (eAd E 17)) F hH inX5 (hE.2.1 15 (by decide) (by decide)) (cq_mo E _) rfl 2 (by decide) (hts (.fieldLink RX5 13 "DryingKilnModel" "cells" "[I") (by decide +kernel)) (fun _ h => h) rfl dX5_planHour_46 ?_
          refine lv_bipush (v := 54) hx hb dX5_planHour_49 (by decide) ?_
          refine g_sv (As := [.ref (eAd E 25), .ref (eAd E 17), .int 54]) F hH (c_X5_copy l E hE (mblm E (nI (10 * t)) w) 25 17 54 (hE.2.1 25 (by decide) (by decide)) (fun _ => rfl) (hE.2.1 17 (by decide) (by decide)) (fun _ => rfl) (by decide) (by decide)) (va_cwS 3 hts gX5_planHour_X5_copy rfl rfl rfl (by decide +kernel) ⟨Nat.le_of_ble_eq_true rfl, Nat.le_of_ble_eq_true rfl⟩) rfl hl.1 [] rfl (Nat.le_of_ble_eq_true rfl) dX5_planHour_51 ⟨Nat.zero_le _, Nat.zero_le _⟩ (fun H locs hH => ?_)
          refine lv_iinc (v := nI (10 * (t + 1))) (lv' := [(1, .int (nI (10 * (t + 1)))), (0, .ref (eAd E 15))]) hx hb dX5_planHour_54 hl (k := 1) rfl (by rw [show 10 * (t + 1) = 10 * t + 10 by omega, ← nI_add]; rfl) (by decide) rfl (fun ls hl => ?_)
          refine lv_goto (tgt := 15) hx hb dX5_planHour_57 (by decide) ?_
          exact ih (t + 1) (by omega) (mcpy (mblm E (nI (10 * t)) w) 25 17 54) (by rw [mcpy_ne _ _ _ trivial (by decide), mblm_ne E _ _ (by decide) (by decide) (by decide)]; exact hwc) (hw2.trans (if_neg c3)) _ _ ls (by first | exact hH | (simp only [c2, c3, if_true, if_false, ↓reduceIte]; exact hH)) (by first | exact lv_sub hl [1, 0] rfl | (have h := lv_sub hl [1, 0] rfl; simp only [c2, c3, if_true, if_false, ↓reduceIte]; exact h))
        · skip
          refine lv_aload_n hx hb dX5_planHour_35 rfl (lv_at hl 0 rfl) ?_
          refine g_vv (As := []) F hH (c_X5_endDrying l E hE (mblm E (nI (10 * t)) w)) (cwV 0 hts gX5_planHour_X5_endDrying rfl rfl rfl (by decide +kernel) ⟨Nat.le_of_ble_eq_true rfl, Nat.le_of_ble_eq_true rfl⟩) (hE.2.1 15 (by decide) (by decide)) (cq_mo E _) rfl rfl hl.1 [] rfl (Nat.le_of_ble_eq_true rfl) dX5_planHour_36 ⟨Nat.zero_le _, Nat.zero_le _⟩ (fun H locs hH => ?_)
          refine lv_iload_n hx hb dX5_planHour_39 rfl (lv_at hl 1 rfl) ?_
          exact g_iret F hr hlk hH (by rw [mpl, hw2]; first | rfl | exact (congrArg Prod.snd (mph_go E n t w c3)).symm) (by rw [mpl, hw2]; first | rfl | exact (congrArg Prod.fst (mph_go E n t w c3)).symm) dX5_planHour_40
  exact loop15 31 0 (Nat.zero_add _) (mcpy v 17 25 54) hcap rfl _ _ ls hH (lv_sub hl [1, 0] rfl)

set_option maxHeartbeats 4000000 in
set_option maxRecDepth 100000 in
theorem c_X5_findPlan (l : Launch) (E : Ev) (hE : EO E) (v : Mem) (a : Int32) (hcap : ¬ v 15 7 = 0) (hbr : isB (v 15 10)) : Ci l yX5_findPlan wsX5_findPlan ({ frames := 4, cells := 0, slots := 0, locals := 88 } : Room) E [.ref (eAd E 15), .int a] v (mfr E v a) (mfm E v a) := by
  refine Ci.of (cc := cX5_findPlan) (maxL := 5) (ret := (some .boolean)) (own := RX5) (by decide) rfl rfl (Nat.le_of_ble_eq_true rfl) ?_
  intro p e s m below meth c F hr hlk ls hl hH
  obtain ⟨hx, hb, hml, hown, hts⟩ := id F.1
  have hl : lv_has ls 5 [(0, .ref (eAd E 15)), (1, .int a)] := hl
  have inX5 : ∀ w ∈ wsX50, w ∈ wsX5_findPlan := fun w h => List.mem_cons_of_mem _ (List.mem_append_right _ h)
  refine lv_aload_n hx hb dX5_findPlan_0 rfl (lv_at hl 0 rfl) ?_
  refine g_get (x := .int (v 15 10)) F hH inX5 (hE.2.1 15 (by decide) (by decide)) (cq_mo E _) rfl 10 (by decide) (hts (.fieldLink RX5 96 "DryingKilnModel" "isReversed" "Z") (by decide +kernel)) (fun _ h => h) rfl dX5_findPlan_1 ?_
  refine lv_istore_n (lv' := [(2, .int (v 15 10)), (0, .ref (eAd E 15)), (1, .int a)]) hx hb dX5_findPlan_4 rfl hl (by decide) rfl (fun ls hl => ?_)
  refine lv_aload_n hx hb dX5_findPlan_5 rfl (lv_at hl 1 rfl) ?_
  refine g_get (x := .int (v 15 13)) F hH inX5 (hE.2.1 15 (by decide) (by decide)) (cq_mo E _) rfl 13 (by decide) (hts (.fieldLink RX5 110 "DryingKilnModel" "dryingHours" "I") (by decide +kernel)) (fun _ h => h) rfl dX5_findPlan_6 ?_
  refine lv_istore_n (lv' := [(3, .int (v 15 13)), (2, .int (v 15 10)), (0, .ref (eAd E 15)), (1, .int a)]) hx hb dX5_findPlan_9 rfl hl (by decide) rfl (fun ls hl => ?_)
  refine lv_aload_n hx hb dX5_findPlan_10 rfl (lv_at hl 2 rfl) ?_
  refine g_get (x := .ref (eAd E 17)) F hH inX5 (hE.2.1 15 (by decide) (by decide)) (cq_mo E _) rfl 2 (by decide) (hts (.fieldLink RX5 13 "DryingKilnModel" "cells" "[I") (by decide +kernel)) (fun _ h => h) rfl dX5_findPlan_11 ?_
  refine lv_aload_n hx hb dX5_findPlan_14 rfl (lv_at hl 2 rfl) ?_
  refine g_get (x := .ref (eAd E 23)) F hH inX5 (hE.2.1 15 (by decide) (by decide)) (cq_mo E _) rfl 19 (by decide) (hts (.fieldLink RX5 44 "DryingKilnModel" "savedCells" "[I") (by decide +kernel)) (fun _ h => h) rfl dX5_findPlan_15 ?_
  refine lv_bipush (v := 54) hx hb dX5_findPlan_18 (by decide) ?_
  refine g_sv (As := [.ref (eAd E 17), .ref (eAd E 23), .int 54]) F hH (c_X5_copy l E hE v 17 23 54 (hE.2.1 17 (by decide) (by decide)) (fun _ => rfl) (hE.2.1 23 (by decide) (by decide)) (fun _ => rfl) (by decide) (by decide)) (va_cwS 3 hts gX5_findPlan_X5_copy rfl rfl rfl (by decide +kernel) ⟨Nat.le_of_ble_eq_true rfl, Nat.le_of_ble_eq_true rfl⟩) rfl hl.1 [] rfl (Nat.le_of_ble_eq_true rfl) dX5_findPlan_20 ⟨Nat.zero_le _, Nat.zero_le _⟩ (fun H locs hH => ?_)
  refine lv_aload_n hx hb dX5_findPlan_23 rfl (lv_at hl 2 rfl) ?_
  refine g_get (x := .ref (eAd E 19)) F hH inX5 (hE.2.1 15 (by decide) (by decide)) (cq_mo E _) rfl 4 (by decide) (hts (.fieldLink RX5 19 "DryingKilnModel" "airOf" "[I") (by decide +kernel)) (fun _ h => h) rfl dX5_findPlan_24 ?_
  refine lv_aload_n hx hb dX5_findPlan_27 rfl (lv_at hl 2 rfl) ?_
  refine g_get (x := .ref (eAd E 24)) F hH inX5 (hE.2.1 15 (by decide) (by decide)) (cq_mo E _) rfl 20 (by decide) (hts (.fieldLink RX5 47 "DryingKilnModel" "savedAir" "[I") (by decide +kernel)) (fun _ h => h) rfl dX5_findPlan_28 ?_
  refine lv_bipush (v := 6) hx hb dX5_findPlan_31 (by decide) ?_
  refine g_sv (As := [.ref (eAd E 19), .ref (eAd E 24), .int 6]) F hH (c_X5_copy l E hE (mcpy v 17 23 54) 19 24 6 (hE.2.1 19 (by decide) (by decide)) (fun _ => rfl) (hE.2.1 24 (by decide) (by decide)) (fun _ => rfl) (by decide) (by decide)) (va_cwS 3 hts gX5_findPlan_X5_copy rfl rfl rfl (by decide +kernel) ⟨Nat.le_of_ble_eq_true rfl, Nat.le_of_ble_eq_true rfl⟩) rfl hl.1 [] rfl (Nat.le_of_ble_eq_true rfl) dX5_findPlan_33 ⟨Nat.zero_le _, Nat.zero_le _⟩ (fun H locs hH => ?_)
  refine lv_aload_n hx hb dX5_findPlan_36 rfl (lv_at hl 2 rfl) ?_
  refine lv_iconst (v := 0) hx hb dX5_findPlan_37 (by decide) ?_
  refine g_put (ty := .int) (x := 0) F hH inX5 tyX5 tyX5_ok nmX5 (hE.2.1 15 (by decide) (by decide)) (cq_mo E _) rfl 23 (by decide) (hts (.fieldLink RX5 149 "DryingKilnModel" "planned" "I") (by decide +kernel)) (fun _ h => h) rfl (by decide +kernel) rfl rfl (Nat.le_of_ble_eq_true rfl) (cq_mo E _) dX5_findPlan_38 (fun H locs hH => ?_)
  have loop41 : ∀ (n t : Nat), t + n = 300 → ∀ (w : Mem), w 15 23 = nI t → ¬ w 15 7 = 0 → mpn E a 300 0 (mst0 v) = mpn E a n t w → ∀ (H : Heap) (locs : List Loc) (ls : Array Slot), HS E s.heap w H locs → lv_has ls 5 [(0, .ref (eAd E 15)), (1, .int a), (2, .int (v 15 10)), (3, .int (v 15 13))] → W p l e ({ frames := 4, cells := 0, slots := 0, locals := 88 } : Room) s m ([.ref (eAd E 15), .int a] : List Value).toArray below meth c H locs 0 0 (Zi below E ([.ref (eAd E 15), .int a] : List Value).toArray s (mfr E v a) (mfm E v a)) (F0 m 41 ls []) := by
    intro n
    induction n with
    | zero =>
      intro t ht w hwp hwc hw2 H locs ls hH hl
      obtain rfl : 300 = t := by omega
      refine lv_aload_n hx hb dX5_findPlan_41 rfl (lv_at hl 0 rfl) ?_
      refine g_get (x := .int (w 15 23)) F hH inX5 (hE.2.1 15 (by decide) (by decide)) (cq_mo E _) rfl 23 (by decide) (hts (.fieldLink RX5 149 "DryingKilnModel" "planned" "I") (by decide +kernel)) (fun _ h => h) rfl dX5_findPlan_42 ?_
      rw [show w 15 23 = nI 300 from hwp]
      refine lv_sipush (v := 300) hx hb dX5_findPlan_45 (by decide) ?_
      refine lv_icmp_ge (tgt := 85) hx hb dX5_findPlan_48 (by decide) (fun c1 => ?_) (fun c1 => ?_)
      · skip
        have hfin : mpn E a 300 0 (mst0 v) = (w, 300) := by first | exact hw2 | exact hw2.trans (if_pos (by assumption))
        refine lv_aload_n hx hb dX5_findPlan_85 rfl (lv_at hl 0 rfl) ?_
        refine lv_iload_n hx hb dX5_findPlan_86 rfl (lv_at hl 1 rfl) ?_
        refine g_vi (As := [.int a]) F hH (c_X5_isWet l E hE w a) (cwV 1 hts gX5_findPlan_X5_isWet rfl rfl rfl (by decide +kernel) ⟨Nat.le_of_ble_eq_true rfl, Nat.le_of_ble_eq_true rfl⟩) (hE.2.1 15 (by decide) (by decide)) (cq_mo E _) rfl rfl hl.1 [] rfl (Nat.le_of_ble_eq_true rfl) dX5_findPlan_87 ⟨Nat.zero_le _, Nat.zero_le _⟩ (fun H locs hH => ?_)
        refine lv_if_ne (tgt := 97) hx hb dX5_findPlan_90 (by decide) (fun c2 => ?_) (fun c2 => ?_)
        · skip
          refine lv_iconst (v := 0) hx hb dX5_findPlan_97 (by decide) ?_
          refine lv_istore (lv' := [(4, .int 0), (0, .ref (eAd E 15)), (1, .int a), (2, .int (v 15 10)), (3, .int (v 15 13))]) hx hb dX5_findPlan_98 hl (by decide) rfl (fun ls hl => ?_)
          refine lv_aload_n hx hb dX5_findPlan_100 rfl (lv_at hl 1 rfl) ?_
          refine g_get (x := .ref (eAd E 23)) F hH inX5 (hE.2.1 15 (by decide) (by decide)) (cq_mo E _) rfl 19 (by decide) (hts (.fieldLink RX5 44 "DryingKilnModel" "savedCells" "[I") (by decide +kernel)) (fun _ h => h) rfl dX5_findPlan_101 ?_
          refine lv_aload_n hx hb dX5_findPlan_104 rfl (lv_at hl 1 rfl) ?_
          refine g_get (x := .ref (eAd E 17)) F hH inX5 (hE.2.1 15 (by decide) (by decide)) (cq_mo E _) rfl 2 (by decide) (hts (.fieldLink RX5 13 "DryingKilnModel" "cells" "[I") (by decide +kernel)) (fun _ h => h) rfl dX5_findPlan_105 ?_
          refine lv_bipush (v := 54) hx hb dX5_findPlan_108 (by decide) ?_
          refine g_sv (As := [.ref (eAd E 23), .ref (eAd E 17), .int 54]) F hH (c_X5_copy l E hE w 23 17 54 (hE.2.1 23 (by decide) (by decide)) (fun _ => rfl) (hE.2.1 17 (by decide) (by decide)) (fun _ => rfl) (by decide) (by decide)) (va_cwS 3 hts gX5_findPlan_X5_copy rfl rfl rfl (by decide +kernel) ⟨Nat.le_of_ble_eq_true rfl, Nat.le_of_ble_eq_true rfl⟩) rfl hl.1 [] rfl (Nat.le_of_ble_eq_true rfl) dX5_findPlan_110 ⟨Nat.zero_le _, Nat.zero_le _⟩ (fun H locs hH => ?_)
          refine lv_aload_n hx hb dX5_findPlan_113 rfl (lv_at hl 1 rfl) ?_
          refine g_get (x := .ref (eAd E 24)) F hH inX5 (hE.2.1 15 (by decide) (by decide)) (cq_mo E _) rfl 20 (by decide) (hts (.fieldLink RX5 47 "DryingKilnModel" "savedAir" "[I") (by decide +kernel)) (fun _ h => h) rfl dX5_findPlan_114 ?_
          refine lv_aload_n hx hb dX5_findPlan_117 rfl (lv_at hl 1 rfl) ?_
          refine g_get (x := .ref (eAd E 19)) F hH inX5 (hE.2.1 15 (by decide) (by decide)) (cq_mo E _) rfl 4 (by decide) (hts (.fieldLink RX5 19 "DryingKilnModel" "airOf" "[I") (by decide +kernel)) (fun _ h => h) rfl dX5_findPlan_118 ?_
          refine lv_bipush (v := 6) hx hb dX5_findPlan_121 (by decide) ?_
          refine g_sv (As := [.ref (eAd E 24), .ref (eAd E 19), .int 6]) F hH (c_X5_copy l E hE (mcpy w 23 17 54) 24 19 6 (hE.2.1 24 (by decide) (by decide)) (fun _ => rfl) (hE.2.1 19 (by decide) (by decide)) (fun _ => rfl) (by decide) (by decide)) (va_cwS 3 hts gX5_findPlan_X5_copy rfl rfl rfl (by decide +kernel) ⟨Nat.le_of_ble_eq_true rfl, Nat.le_of_ble_eq_true rfl⟩) rfl hl.1 [] rfl (Nat.le_of_ble_eq_true rfl) dX5_findPlan_123 ⟨Nat.zero_le _, Nat.zero_le _⟩ (fun H locs hH => ?_)
          refine lv_aload_n hx hb dX5_findPlan_126 rfl (lv_at hl 1 rfl) ?_
          refine lv_iload_n hx hb dX5_findPlan_127 rfl (lv_at hl 3 rfl) ?_
          refine g_put (ty := .boolean) (x := v 15 10) F hH inX5 tyX5 tyX5_ok nmX5 (hE.2.1 15 (by decide) (by decide)) (cq_mo E _) rfl 10 (by decide) (hts (.fieldLink RX5 96 "DryingKilnModel" "isReversed" "Z") (by decide +kernel)) (fun _ h => h) rfl (by decide +kernel) hbr.n hbr.f (Nat.le_of_ble_eq_true rfl) (cq_mo E _) dX5_findPlan_128 (fun H locs hH => ?_)
          refine lv_aload_n hx hb dX5_findPlan_131 rfl (lv_at hl 1 rfl) ?_
          refine lv_iload_n hx hb dX5_findPlan_132 rfl (lv_at hl 4 rfl) ?_
          refine g_put (ty := .int) (x := v 15 13) F hH inX5 tyX5 tyX5_ok nmX5 (hE.2.1 15 (by decide) (by decide)) (cq_mo E _) rfl 13 (by decide) (hts (.fieldLink RX5 110 "DryingKilnModel" "dryingHours" "I") (by decide +kernel)) (fun _ h => h) rfl (by decide +kernel) rfl rfl (Nat.le_of_ble_eq_true rfl) (cq_mo E _) dX5_findPlan_133 (fun H locs hH => ?_)
          refine lv_iload hx hb dX5_findPlan_136 (lv_at hl 0 rfl) ?_
          exact g_zret F hr hlk hH (by rfl) (by unfold mfr; rw [hfin]; first | exact (if_pos c2).symm | exact (if_neg c2).symm) (by unfold mfm; rw [hfin]; rfl) dX5_findPlan_138
        · skip
          refine lv_iconst (v := 1) hx hb dX5_findPlan_93 (by decide) ?_
          refine lv_goto (tgt := 98) hx hb dX5_findPlan_94 (by decide) ?_
          refine lv_istore (lv' := [(4, .int 1), (0, .ref (eAd E 15)), (1, .int a), (2, .int (v 15 10)), (3, .int (v 15 13))]) hx hb dX5_findPlan_98 hl (by decide) rfl (fun ls hl => ?_)
          refine lv_aload_n hx hb dX5_findPlan_100 rfl (lv_at hl 1 rfl) ?_
          refine g_get (x := .ref (eAd E 23)) F hH inX5 (hE.2.1 15 (by decide) (by decide)) (cq_mo E _) rfl 19 (by decide) (hts (.fieldLink RX5 44 "DryingKilnModel" "savedCells" "[I") (by decide +kernel)) (fun _ h => h) rfl dX5_findPlan_101 ?_
          refine lv_aload_n hx hb dX5_findPlan_104 rfl (lv_at hl 1 rfl) ?_
          refine g_get (x := .ref (eAd E 17)) F hH inX5 (hE.2.1 15 (by decide) (by decide)) (cq_mo E _) rfl 2 (by decide) (hts (.fieldLink RX5 13 "DryingKilnModel" "cells" "[I") (by decide +kernel)) (fun _ h => h) rfl dX5_findPlan_105 ?_
          refine lv_bipush (v := 54) hx hb dX5_findPlan_108 (by decide) ?_
          refine g_sv (As := [.ref (eAd E 23), .ref (eAd E 17), .int 54]) F hH (c_X5_copy l E hE w 23 17 54 (hE.2.1 23 (by decide) (by decide)) (fun _ => rfl) (hE.2.1 17 (by decide) (by decide)) (fun _ => rfl) (by decide) (by decide)) (va_cwS 3 hts gX5_findPlan_X5_copy rfl rfl rfl (by decide +kernel) ⟨Nat.le_of_ble_eq_true rfl, Nat.le_of_ble_eq_true rfl⟩) rfl hl.1 [] rfl (Nat.le_of_ble_eq_true rfl) dX5_findPlan_110 ⟨Nat.zero_le _, Nat.zero_le _⟩ (fun H locs hH => ?_)
          refine lv_aload_n hx hb dX5_findPlan_113 rfl (lv_at hl 1 rfl) ?_
          refine g_get (x := .ref (eAd E 24)) F hH inX5 (hE.2.1 15 (by decide) (by decide)) (cq_mo E _) rfl 20 (by decide) (hts (.fieldLink RX5 47 "DryingKilnModel" "savedAir" "[I") (by decide +kernel)) (fun _ h => h) rfl dX5_findPlan_114 ?_
          refine lv_aload_n hx hb dX5_findPlan_117 rfl (lv_at hl 1 rfl) ?_
          refine g_get (x := .ref (eAd E 19)) F hH inX5 (hE.2.1 15 (by decide) (by decide)) (cq_mo E _) rfl 4 (by decide) (hts (.fieldLink RX5 19 "DryingKilnModel" "airOf" "[I") (by decide +kernel)) (fun _ h => h) rfl dX5_findPlan_118 ?_
          refine lv_bipush (v := 6) hx hb dX5_findPlan_121 (by decide) ?_
          refine g_sv (As := [.ref (eAd E 24), .ref (eAd E 19), .int 6]) F hH (c_X5_copy l E hE (mcpy w 23 17 54) 24 19 6 (hE.2.1 24 (by decide) (by decide)) (fun _ => rfl) (hE.2.1 19 (by decide) (by decide)) (fun _ => rfl) (by decide) (by decide)) (va_cwS 3 hts gX5_findPlan_X5_copy rfl rfl rfl (by decide +kernel) ⟨Nat.le_of_ble_eq_true rfl, Nat.le_of_ble_eq_true rfl⟩) rfl hl.1 [] rfl (Nat.le_of_ble_eq_true rfl) dX5_findPlan_123 ⟨Nat.zero_le _, Nat.zero_le _⟩ (fun H locs hH => ?_)
          refine lv_aload_n hx hb dX5_findPlan_126 rfl (lv_at hl 1 rfl) ?_
          refine lv_iload_n hx hb dX5_findPlan_127 rfl (lv_at hl 3 rfl) ?_
          refine g_put (ty := .boolean) (x := v 15 10) F hH inX5 tyX5 tyX5_ok nmX5 (hE.2.1 15 (by decide) (by decide)) (cq_mo E _) rfl 10 (by decide) (hts (.fieldLink RX5 96 "DryingKilnModel" "isReversed" "Z") (by decide +kernel)) (fun _ h => h) rfl (by decide +kernel) hbr.n hbr.f (Nat.le_of_ble_eq_true rfl) (cq_mo E _) dX5_findPlan_128 (fun H locs hH => ?_)
          refine lv_aload_n hx hb dX5_findPlan_131 rfl (lv_at hl 1 rfl) ?_
          refine lv_iload_n hx hb dX5_findPlan_132 rfl (lv_at hl 4 rfl) ?_
          refine g_put (ty := .int) (x := v 15 13) F hH inX5 tyX5 tyX5_ok nmX5 (hE.2.1 15 (by decide) (by decide)) (cq_mo E _) rfl 13 (by decide) (hts (.fieldLink RX5 110 "DryingKilnModel" "dryingHours" "I") (by decide +kernel)) (fun _ h => h) rfl (by decide +kernel) rfl rfl (Nat.le_of_ble_eq_true rfl) (cq_mo E _) dX5_findPlan_133 (fun H locs hH => ?_)
          refine lv_iload hx hb dX5_findPlan_136 (lv_at hl 0 rfl) ?_
          exact g_zret F hr hlk hH (by rfl) (by unfold mfr; rw [hfin]; first | exact (if_pos c2).symm | exact (if_neg c2).symm) (by unfold mfm; rw [hfin]; rfl) dX5_findPlan_138
      · skip
        exact absurd (nI_le (a := 300) (b := 300) (Nat.le_refl _) (by omega)) c1
    | succ n ih =>
      intro t ht w hwp hwc hw2 H locs ls hH hl
      have htN : t < 300 := by omega
      refine lv_aload_n hx hb dX5_findPlan_41 rfl (lv_at hl 0 rfl) ?_
      refine g_get (x := .int (w 15 23)) F hH inX5 (hE.2.1 15 (by decide) (by decide)) (cq_mo E _) rfl 23 (by decide) (hts (.fieldLink RX5 149 "DryingKilnModel" "planned" "I") (by decide +kernel)) (fun _ h => h) rfl dX5_findPlan_42 ?_
      rw [show w 15 23 = nI t from hwp]
      refine lv_sipush (v := 300) hx hb dX5_findPlan_45 (by decide) ?_
      refine lv_icmp_ge (tgt := 85) hx hb dX5_findPlan_48 (by decide) (fun c3 => ?_) (fun c3 => ?_)
      · skip
        exact absurd c3 (nI_ge (b := 300) htN (by omega))
      · skip
        refine lv_aload_n hx hb dX5_findPlan_51 rfl (lv_at hl 0 rfl) ?_
        refine lv_iload_n hx hb dX5_findPlan_52 rfl (lv_at hl 1 rfl) ?_
        refine g_vi (As := [.int a]) F hH (c_X5_isWet l E hE w a) (cwV 1 hts gX5_findPlan_X5_isWet rfl rfl rfl (by decide +kernel) ⟨Nat.le_of_ble_eq_true rfl, Nat.le_of_ble_eq_true rfl⟩) (hE.2.1 15 (by decide) (by decide)) (cq_mo E _) rfl rfl hl.1 [] rfl (Nat.le_of_ble_eq_true rfl) dX5_findPlan_53 ⟨Nat.zero_le _, Nat.zero_le _⟩ (fun H locs hH => ?_)
        refine lv_if_eq (tgt := 85) hx hb dX5_findPlan_56 (by decide) (fun c4 => ?_) (fun c4 => ?_)
        · skip
          have hfin : mpn E a 300 0 (mst0 v) = (w, t) := by first | exact hw2 | exact hw2.trans (if_pos (by assumption))
          refine lv_aload_n hx hb dX5_findPlan_85 rfl (lv_at hl 0 rfl) ?_
          refine lv_iload_n hx hb dX5_findPlan_86 rfl (lv_at hl 1 rfl) ?_
          refine g_vi (As := [.int a]) F hH (c_X5_isWet l E hE w a) (cwV 1 hts gX5_findPlan_X5_isWet rfl rfl rfl (by decide +kernel) ⟨Nat.le_of_ble_eq_true rfl, Nat.le_of_ble_eq_true rfl⟩) (hE.2.1 15 (by decide) (by decide)) (cq_mo E _) rfl rfl hl.1 [] rfl (Nat.le_of_ble_eq_true rfl) dX5_findPlan_87 ⟨Nat.zero_le _, Nat.zero_le _⟩ (fun H locs hH => ?_)
          refine lv_if_ne (tgt := 97) hx hb dX5_findPlan_90 (by decide) (fun c5 => ?_) (fun c5 => ?_)
          · skip
            refine lv_iconst (v := 0) hx hb dX5_findPlan_97 (by decide) ?_
            refine lv_istore (lv' := [(4, .int 0), (0, .ref (eAd E 15)), (1, .int a), (2, .int (v 15 10)), (3, .int (v 15 13))]) hx hb dX5_findPlan_98 hl (by decide) rfl (fun ls hl => ?_)
            refine lv_aload_n hx hb dX5_findPlan_100 rfl (lv_at hl 1 rfl) ?_
            refine g_get (x := .ref (eAd E 23)) F hH inX5 (hE.2.1 15 (by decide) (by decide)) (cq_mo E _) rfl 19 (by decide) (hts (.fieldLink RX5 44 "DryingKilnModel" "savedCells" "[I") (by decide +kernel)) (fun _ h => h) rfl dX5_findPlan_101 ?_
            refine lv_aload_n hx hb dX5_findPlan_104 rfl (lv_at hl 1 rfl) ?_
            refine g_get (x := .ref (eAd E 17)) F hH inX5 (hE.2.1 15 (by decide) (by decide)) (cq_mo E _) rfl 2 (by decide) (hts (.fieldLink RX5 13 "DryingKilnModel" "cells" "[I") (by decide +kernel)) (fun _ h => h) rfl dX5_findPlan_105 ?_
            refine lv_bipush (v := 54) hx hb dX5_findPlan_108 (by decide) ?_
            refine g_sv (As := [.ref (eAd E 23), .ref (eAd E 17), .int 54]) F hH (c_X5_copy l E hE w 23 17 54 (hE.2.1 23 (by decide) (by decide)) (fun _ => rfl) (hE.2.1 17 (by decide) (by decide)) (fun _ => rfl) (by decide) (by decide)) (va_cwS 3 hts gX5_findPlan_X5_copy rfl rfl rfl (by decide +kernel) ⟨Nat.le_of_ble_eq_true rfl, Nat.le_of_ble_eq_true rfl⟩) rfl hl.1 [] rfl (Nat.le_of_ble_eq_true rfl) dX5_findPlan_110 ⟨Nat.zero_le _, Nat.zero_le _⟩ (fun H locs hH => ?_)
            refine lv_aload_n hx hb dX5_findPlan_113 rfl (lv_at hl 1 rfl) ?_
            refine g_get (x := .ref (eAd E 24)) F hH inX5 (hE.2.1 15 (by decide) (by decide)) (cq_mo E _) rfl 20 (by decide) (hts (.fieldLink RX5 47 "DryingKilnModel" "savedAir" "[I") (by decide +kernel)) (fun _ h => h) rfl dX5_findPlan_114 ?_
            refine lv_aload_n hx hb dX5_findPlan_117 rfl (lv_at hl 1 rfl) ?_
            refine g_get (x := .ref (eAd E 19)) F hH inX5 (hE.2.1 15 (by decide) (by decide)) (cq_mo E _) rfl 4 (by decide) (hts (.fieldLink RX5 19 "DryingKilnModel" "airOf" "[I") (by decide +kernel)) (fun _ h => h) rfl dX5_findPlan_118 ?_
            refine lv_bipush (v := 6) hx hb dX5_findPlan_121 (by decide) ?_
            refine g_sv (As := [.ref (eAd E 24), .ref (eAd E 19), .int 6]) F hH (c_X5_copy l E hE (mcpy w 23 17 54) 24 19 6 (hE.2.1 24 (by decide) (by decide)) (fun _ => rfl) (hE.2.1 19 (by decide) (by decide)) (fun _ => rfl) (by decide) (by decide)) (va_cwS 3 hts gX5_findPlan_X5_copy rfl rfl rfl (by decide +kernel) ⟨Nat.le_of_ble_eq_true rfl, Nat.le_of_ble_eq_true rfl⟩) rfl hl.1 [] rfl (Nat.le_of_ble_eq_true rfl) dX5_findPlan_123 ⟨Nat.zero_le _, Nat.zero_le _⟩ (fun H locs hH => ?_)
            refine lv_aload_n hx hb dX5_findPlan_126 rfl (lv_at hl 1 rfl) ?_
            refine lv_iload_n hx hb dX5_findPlan_127 rfl (lv_at hl 3 rfl) ?_
            refine g_put (ty := .boolean) (x := v 15 10) F hH inX5 tyX5 tyX5_ok nmX5 (hE.2.1 15 (by decide) (by decide)) (cq_mo E _) rfl 10 (by decide) (hts (.fieldLink RX5 96 "DryingKilnModel" "isReversed" "Z") (by decide +kernel)) (fun _ h => h) rfl (by decide +kernel) hbr.n hbr.f (Nat.le_of_ble_eq_true rfl) (cq_mo E _) dX5_findPlan_128 (fun H locs hH => ?_)
            refine lv_aload_n hx hb dX5_findPlan_131 rfl (lv_at hl 1 rfl) ?_
            refine lv_iload_n hx hb dX5_findPlan_132 rfl (lv_at hl 4 rfl) ?_
            refine g_put (ty := .int) (x := v 15 13) F hH inX5 tyX5 tyX5_ok nmX5 (hE.2.1 15 (by decide) (by decide)) (cq_mo E _) rfl 13 (by decide) (hts (.fieldLink RX5 110 "DryingKilnModel" "dryingHours" "I") (by decide +kernel)) (fun _ h => h) rfl (by decide +kernel) rfl rfl (Nat.le_of_ble_eq_true rfl) (cq_mo E _) dX5_findPlan_133 (fun H locs hH => ?_)
            refine lv_iload hx hb dX5_findPlan_136 (lv_at hl 0 rfl) ?_
            exact g_zret F hr hlk hH (by rfl) (by unfold mfr; rw [hfin]; first | exact (if_pos c5).symm | exact (if_neg c5).symm) (by unfold mfm; rw [hfin]; rfl) dX5_findPlan_138
          · skip
            refine lv_iconst (v := 1) hx hb dX5_findPlan_93 (by decide) ?_
            refine lv_goto (tgt := 98) hx hb dX5_findPlan_94 (by decide) ?_
            refine lv_istore (lv' := [(4, .int 1), (0, .ref (eAd E 15)), (1, .int a), (2, .int (v 15 10)), (3, .int (v 15 13))]) hx hb dX5_findPlan_98 hl (by decide) rfl (fun ls hl => ?_)
            refine lv_aload_n hx hb dX5_findPlan_100 rfl (lv_at hl 1 rfl) ?_
            refine g_get (x := .ref (eAd E 23)) F hH inX5 (hE.2.1 15 (by decide) (by decide)) (cq_mo E _) rfl 19 (by decide) (hts (.fieldLink RX5 44 "DryingKilnModel" "savedCells" "[I") (by decide +kernel)) (fun _ h => h) rfl dX5_findPlan_101 ?_
            refine lv_aload_n hx hb dX5_findPlan_104 rfl (lv_at hl 1 rfl) ?_
            refine g_get (x := .ref (eAd E 17)) F hH inX5 (hE.2.1 15 (by decide) (by decide)) (cq_mo E _) rfl 2 (by decide) (hts (.fieldLink RX5 13 "DryingKilnModel" "cells" "[I") (by decide +kernel)) (fun _ h => h) rfl dX5_findPlan_105 ?_
            refine lv_bipush (v := 54) hx hb dX5_findPlan_108 (by decide) ?_
            refine g_sv (As := [.ref (eAd E 23), .ref (eAd E 17), .int 54]) F hH (c_X5_copy l E hE w 23 17 54 (hE.2.1 23 (by decide) (by decide)) (fun _ => rfl) (hE.2.1 17 (by decide) (by decide)) (fun _ => rfl) (by decide) (by decide)) (va_cwS 3 hts gX5_findPlan_X5_copy rfl rfl rfl (by decide +kernel) ⟨Nat.le_of_ble_eq_true rfl, Nat.le_of_ble_eq_true rfl⟩) rfl hl.1 [] rfl (Nat.le_of_ble_eq_true rfl) dX5_findPlan_110 ⟨Nat.zero_le _, Nat.zero_le _⟩ (fun H locs hH => ?_)
            refine lv_aload_n hx hb dX5_findPlan_113 rfl (lv_at hl 1 rfl) ?_
            refine g_get (x := .ref (eAd E 24)) F hH inX5 (hE.2.1 15 (by decide) (by decide)) (cq_mo E _) rfl 20 (by decide) (hts (.fieldLink RX5 47 "DryingKilnModel" "savedAir" "[I") (by decide +kernel)) (fun _ h => h) rfl dX5_findPlan_114 ?_
            refine lv_aload_n hx hb dX5_findPlan_117 rfl (lv_at hl 1 rfl) ?_
            refine g_get (x := .ref (eAd E 19)) F hH inX5 (hE.2.1 15 (by decide) (by decide)) (cq_mo E _) rfl 4 (by decide) (hts (.fieldLink RX5 19 "DryingKilnModel" "airOf" "[I") (by decide +kernel)) (fun _ h => h) rfl dX5_findPlan_118 ?_
            refine lv_bipush (v := 6) hx hb dX5_findPlan_121 (by decide) ?_
            refine g_sv (As := [.ref (eAd E 24), .ref (eAd E 19), .int 6]) F hH (c_X5_copy l E hE (mcpy w 23 17 54) 24 19 6 (hE.2.1 24 (by decide) (by decide)) (fun _ => rfl) (hE.2.1 19 (by decide) (by decide)) (fun _ => rfl) (by decide) (by decide)) (va_cwS 3 hts gX5_findPlan_X5_copy rfl rfl rfl (by decide +kernel) ⟨Nat.le_of_ble_eq_true rfl, Nat.le_of_ble_eq_true rfl⟩) rfl hl.1 [] rfl (Nat.le_of_ble_eq_true rfl) dX5_findPlan_123 ⟨Nat.zero_le _, Nat.zero_le _⟩ (fun H locs hH => ?_)
            refine lv_aload_n hx hb dX5_findPlan_126 rfl (lv_at hl 1 rfl) ?_
            refine lv_iload_n hx hb dX5_findPlan_127 rfl (lv_at hl 3 rfl) ?_
            refine g_put (ty := .boolean) (x := v 15 10) F hH inX5 tyX5 tyX5_ok nmX5 (hE.2.1 15 (by decide) (by decide)) (cq_mo E _) rfl 10 (by decide) (hts (.fieldLink RX5 96 "DryingKilnModel" "isReversed" "Z") (by decide +kernel)) (fun _ h => h) rfl (by decide +kernel) hbr.n hbr.f (Nat.le_of_ble_eq_true rfl) (cq_mo E _) dX5_findPlan_128 (fun H locs hH => ?_)
            refine lv_aload_n hx hb dX5_findPlan_131 rfl (lv_at hl 1 rfl) ?_
            refine lv_iload_n hx hb dX5_findPlan_132 rfl (lv_at hl 4 rfl) ?_
            refine g_put (ty := .int) (x := v 15 13) F hH inX5 tyX5 tyX5_ok nmX5 (hE.2.1 15 (by decide) (by decide)) (cq_mo E _) rfl 13 (by decide) (hts (.fieldLink RX5 110 "DryingKilnModel" "dryingHours" "I") (by decide +kernel)) (fun _ h => h) rfl (by decide +kernel) rfl rfl (Nat.le_of_ble_eq_true rfl) (cq_mo E _) dX5_findPlan_133 (fun H locs hH => ?_)
            refine lv_iload hx hb dX5_findPlan_136 (lv_at hl 0 rfl) ?_
            exact g_zret F hr hlk hH (by rfl) (by unfold mfr; rw [hfin]; first | exact (if_pos c5).symm | exact (if_neg c5).symm) (by unfold mfm; rw [hfin]; rfl) dX5_findPlan_138
        · skip
          refine lv_aload_n hx hb dX5_findPlan_59 rfl (lv_at hl 0 rfl) ?_
          refine g_get (x := .ref (eAd E 26)) F hH inX5 (hE.2.1 15 (by decide) (by decide)) (cq_mo E _) rfl 22 (by decide) (hts (.fieldLink RX5 53 "DryingKilnModel" "plan" "[I") (by decide +kernel)) (fun _ h => h) rfl dX5_findPlan_60 ?_
          refine lv_aload_n hx hb dX5_findPlan_63 rfl (lv_at hl 0 rfl) ?_
          refine g_get (x := .int (w 15 23)) F hH inX5 (hE.2.1 15 (by decide) (by decide)) (cq_mo E _) rfl 23 (by decide) (hts (.fieldLink RX5 149 "DryingKilnModel" "planned" "I") (by decide +kernel)) (fun _ h => h) rfl dX5_findPlan_64 ?_
          rw [show w 15 23 = nI t from hwp]
          refine lv_aload_n hx hb dX5_findPlan_67 rfl (lv_at hl 0 rfl) ?_
          refine g_vi (As := []) F hH (c_X5_planHour l E hE w hwc) (cwV 0 hts gX5_findPlan_X5_planHour rfl rfl rfl (by decide +kernel) ⟨Nat.le_of_ble_eq_true rfl, Nat.le_of_ble_eq_true rfl⟩) (hE.2.1 15 (by decide) (by decide)) (cq_mo E _) rfl rfl hl.1 [.int (nI t), .ref (eAd E 26)] rfl (Nat.le_of_ble_eq_true rfl) dX5_findPlan_68 ⟨Nat.zero_le _, Nat.zero_le _⟩ (fun H locs hH => ?_)
          refine g_iast (n := 300) F hH (hE.2.1 26 (by decide) (by decide)) (fun _ => rfl) t rfl (by omega) (by omega) dX5_findPlan_71 (fun H locs hH => ?_)
          refine lv_aload_n hx hb dX5_findPlan_72 rfl (lv_at hl 0 rfl) ?_
          refine lv_dup hx hb dX5_findPlan_73 rfl ?_
          refine g_get (x := .int ((st ((mpl E w).1) 26 t ((mpl E w).2)) 15 23)) F hH inX5 (hE.2.1 15 (by decide) (by decide)) (cq_mo E _) rfl 23 (by decide) (hts (.fieldLink RX5 149 "DryingKilnModel" "planned" "I") (by decide +kernel)) (fun _ h => h) rfl dX5_findPlan_74 ?_
          rw [show (st ((mpl E w).1) 26 t ((mpl E w).2)) 15 23 = ((mpl E w).1) 15 23 by rw [st_ne _ _ _ (by decide)]]
          rw [show ((mpl E w).1) 15 23 = nI t from ((mpl_15 E (by decide) (by decide) w).trans hwp)]
          refine lv_iconst (v := 1) hx hb dX5_findPlan_77 (by decide) ?_
          refine lv_iadd hx hb dX5_findPlan_78 ?_
          rw [nI_1 t]
          refine g_put (ty := .int) (x := nI (t + 1)) F hH inX5 tyX5 tyX5_ok nmX5 (hE.2.1 15 (by decide) (by decide)) (cq_mo E _) rfl 23 (by decide) (hts (.fieldLink RX5 149 "DryingKilnModel" "planned" "I") (by decide +kernel)) (fun _ h => h) rfl (by decide +kernel) rfl rfl (Nat.le_of_ble_eq_true rfl) (cq_mo E _) dX5_findPlan_79 (fun H locs hH => ?_)
          refine lv_goto (tgt := 41) hx hb dX5_findPlan_82 (by decide) ?_
          exact ih (t + 1) (by omega) (mps E t w) (st_at _ _ _ _) (by rw [mps, st_nj _ _ _ (by decide), st_ne _ _ _ (by decide), mpl_15 E (by decide) (by decide)]; exact hwc) (hw2.trans (if_neg c4)) _ _ ls (by first | exact hH | (simp only [c3, c4, if_true, if_false, ↓reduceIte]; exact hH)) (by first | exact lv_sub hl [0, 1, 2, 3] rfl | (have h := lv_sub hl [0, 1, 2, 3] rfl; simp only [c3, c4, if_true, if_false, ↓reduceIte]; exact h))
  exact loop41 300 0 (Nat.zero_add _) (mst0 v) (st_at _ _ _ _) hcap rfl _ _ ls hH (lv_sub hl [2, 3, 1, 0] rfl)

set_option maxHeartbeats 4000000 in
set_option maxRecDepth 100000 in
theorem c_X5_plannedHours (l : Launch) (E : Ev) (hE : EO E) (v : Mem) (a : Int32) (hcap : ¬ v 15 7 = 0) (hbr : isB (v 15 10)) : Ci l yX5_plannedHours wsX5_plannedHours ({ frames := 5, cells := 0, slots := 0, locals := 112 } : Room) E [.ref (eAd E 15), .int a] v (mphr E v a) (mphm E v a) := by
  refine Ci.of (cc := cX5_plannedHours) (maxL := 2) (ret := (some .int)) (own := RX5) (by decide) rfl rfl (Nat.le_of_ble_eq_true rfl) ?_
  intro p e s m below meth c F hr hlk ls hl hH
  obtain ⟨hx, hb, hml, hown, hts⟩ := id F.1
  have hl : lv_has ls 2 [(0, .ref (eAd E 15)), (1, .int a)] := hl
  have inX5 : ∀ w ∈ wsX50, w ∈ wsX5_plannedHours := fun w h => List.mem_cons_of_mem _ (List.mem_append_right _ h)
  refine lv_iload_n hx hb dX5_plannedHours_0 rfl (lv_at hl 1 rfl) ?_
  refine lv_iconst (v := 0) hx hb dX5_plannedHours_1 (by decide) ?_
  refine lv_sipush (v := 2000) hx hb dX5_plannedHours_2 (by decide) ?_
  refine g_si (As := [.int a, .int 0, .int 2000]) F hH (c_X5_isBetween l E hE v a 0 2000) (va_cwS 3 hts gX5_plannedHours_X5_isBetween rfl rfl rfl (by decide +kernel) ⟨Nat.le_of_ble_eq_true rfl, Nat.le_of_ble_eq_true rfl⟩) rfl hl.1 [] rfl (Nat.le_of_ble_eq_true rfl) dX5_plannedHours_5 ⟨Nat.zero_le _, Nat.zero_le _⟩ (fun H locs hH => ?_)
  refine lv_if_ne (tgt := 14) hx hb dX5_plannedHours_8 (by decide) (fun c1 => ?_) (fun c1 => ?_)
  · skip
    refine lv_aload_n hx hb dX5_plannedHours_14 rfl (lv_at hl 0 rfl) ?_
    refine lv_iload_n hx hb dX5_plannedHours_15 rfl (lv_at hl 1 rfl) ?_
    refine g_vi (As := [.int a]) F hH (c_X5_findPlan l E hE v a (by first | assumption | omega | decide) (by first | assumption | omega | decide)) (cwV 1 hts gX5_plannedHours_X5_findPlan rfl rfl rfl (by decide +kernel) ⟨Nat.le_of_ble_eq_true rfl, Nat.le_of_ble_eq_true rfl⟩) (hE.2.1 15 (by decide) (by decide)) (cq_mo E _) rfl rfl hl.1 [] rfl (Nat.le_of_ble_eq_true rfl) dX5_plannedHours_16 ⟨Nat.zero_le _, Nat.zero_le _⟩ (fun H locs hH => ?_)
    refine lv_if_eq (tgt := 29) hx hb dX5_plannedHours_19 (by decide) (fun c2 => ?_) (fun c2 => ?_)
    · skip
      refine lv_ldc (v := -1000005) hx hb hown (hts (.constant RX5 68 (-1000005)) (by decide +kernel)) dX5_plannedHours_29 ?_
      exact g_iret F hr hlk hH (by first | rfl | (simp only [mphr, mphm, c1, c2, if_true, if_false, ↓reduceIte]; done) | (simp only [mphr, mphm, c1, c2, if_true, if_false, ↓reduceIte]; rfl)) (by first | rfl | (simp only [mphr, mphm, c1, c2, if_true, if_false, ↓reduceIte]; done) | (simp only [mphr, mphm, c1, c2, if_true, if_false, ↓reduceIte]; rfl)) dX5_plannedHours_31
    · skip
      refine lv_aload_n hx hb dX5_plannedHours_22 rfl (lv_at hl 0 rfl) ?_
      refine g_get (x := .int ((mfm E v a) 15 23)) F hH inX5 (hE.2.1 15 (by decide) (by decide)) (cq_mo E _) rfl 23 (by decide) (hts (.fieldLink RX5 149 "DryingKilnModel" "planned" "I") (by decide +kernel)) (fun _ h => h) rfl dX5_plannedHours_23 ?_
      refine lv_goto (tgt := 31) hx hb dX5_plannedHours_26 (by decide) ?_
      exact g_iret F hr hlk hH (by first | rfl | (simp only [mphr, mphm, c1, c2, if_true, if_false, ↓reduceIte]; done) | (simp only [mphr, mphm, c1, c2, if_true, if_false, ↓reduceIte]; rfl)) (by first | rfl | (simp only [mphr, mphm, c1, c2, if_true, if_false, ↓reduceIte]; done) | (simp only [mphr, mphm, c1, c2, if_true, if_false, ↓reduceIte]; rfl)) dX5_plannedHours_31
  · skip
    refine lv_ldc (v := -1000003) hx hb hown (hts (.constant RX5 66 (-1000003)) (by decide +kernel)) dX5_plannedHours_11 ?_
    exact g_iret F hr hlk hH (by first | rfl | (simp only [mphr, mphm, c1, if_true, if_false, ↓reduceIte]; done) | (simp only [mphr, mphm, c1, if_true, if_false, ↓reduceIte]; rfl)) (by first | rfl | (simp only [mphr, mphm, c1, if_true, if_false, ↓reduceIte]; done) | (simp only [mphr, mphm, c1, if_true, if_false, ↓reduceIte]; rfl)) dX5_plannedHours_13

set_option maxHeartbeats 4000000 in
set_option maxRecDepth 100000 in
theorem c_X5_plannedInlet (l : Launch) (E : Ev) (hE : EO E) (v : Mem) (a : Int32) (b : Int32) (hcap : ¬ v 15 7 = 0) (hbr : isB (v 15 10)) : Ci l yX5_plannedInlet wsX5_plannedInlet ({ frames := 5, cells := 0, slots := 0, locals := 112 } : Room) E [.ref (eAd E 15), .int a, .int b] v (mpir E v a b) (mpim E v a b) := by
  refine Ci.of (cc := cX5_plannedInlet) (maxL := 3) (ret := (some .int)) (own := RX5) (by decide) rfl rfl (Nat.le_of_ble_eq_true rfl) ?_
  intro p e s m below meth c F hr hlk ls hl hH
  obtain ⟨hx, hb, hml, hown, hts⟩ := id F.1
  have hl : lv_has ls 3 [(0, .ref (eAd E 15)), (1, .int a), (2, .int b)] := hl
  have inX5 : ∀ w ∈ wsX50, w ∈ wsX5_plannedInlet := fun w h => List.mem_cons_of_mem _ (List.mem_append_right _ h)
  refine lv_iload_n hx hb dX5_plannedInlet_0 rfl (lv_at hl 1 rfl) ?_
  refine lv_iconst (v := 0) hx hb dX5_plannedInlet_1 (by decide) ?_
  refine lv_sipush (v := 2000) hx hb dX5_plannedInlet_2 (by decide) ?_
  refine g_si (As := [.int a, .int 0, .int 2000]) F hH (c_X5_isBetween l E hE v a 0 2000) (va_cwS 3 hts gX5_plannedInlet_X5_isBetween rfl rfl rfl (by decide +kernel) ⟨Nat.le_of_ble_eq_true rfl, Nat.le_of_ble_eq_true rfl⟩) rfl hl.1 [] rfl (Nat.le_of_ble_eq_true rfl) dX5_plannedInlet_5 ⟨Nat.zero_le _, Nat.zero_le _⟩ (fun H locs hH => ?_)
  refine lv_if_eq (tgt := 15) hx hb dX5_plannedInlet_8 (by decide) (fun c1 => ?_) (fun c1 => ?_)
  · skip
    refine lv_ldc (v := -1000003) hx hb hown (hts (.constant RX5 66 (-1000003)) (by decide +kernel)) dX5_plannedInlet_15 ?_
    exact g_iret F hr hlk hH (by first | rfl | (simp only [mpir, mpim, c1, if_true, if_false, ↓reduceIte]; done) | (simp only [mpir, mpim, c1, if_true, if_false, ↓reduceIte]; rfl)) (by first | rfl | (simp only [mpir, mpim, c1, if_true, if_false, ↓reduceIte]; done) | (simp only [mpir, mpim, c1, if_true, if_false, ↓reduceIte]; rfl)) dX5_plannedInlet_17
  · skip
    refine lv_iload_n hx hb dX5_plannedInlet_11 rfl (lv_at hl 2 rfl) ?_
    refine lv_if_ge (tgt := 18) hx hb dX5_plannedInlet_12 (by decide) (fun c2 => ?_) (fun c2 => ?_)
    · skip
      refine lv_aload_n hx hb dX5_plannedInlet_18 rfl (lv_at hl 0 rfl) ?_
      refine lv_iload_n hx hb dX5_plannedInlet_19 rfl (lv_at hl 1 rfl) ?_
      refine g_vi (As := [.int a]) F hH (c_X5_findPlan l E hE v a (by first | assumption | omega | decide) (by first | assumption | omega | decide)) (cwV 1 hts gX5_plannedInlet_X5_findPlan rfl rfl rfl (by decide +kernel) ⟨Nat.le_of_ble_eq_true rfl, Nat.le_of_ble_eq_true rfl⟩) (hE.2.1 15 (by decide) (by decide)) (cq_mo E _) rfl rfl hl.1 [] rfl (Nat.le_of_ble_eq_true rfl) dX5_plannedInlet_20 ⟨Nat.zero_le _, Nat.zero_le _⟩ (fun H locs hH => ?_)
      refine lv_if_eq (tgt := 43) hx hb dX5_plannedInlet_23 (by decide) (fun c3 => ?_) (fun c3 => ?_)
      · skip
        refine lv_ldc (v := -1000005) hx hb hown (hts (.constant RX5 68 (-1000005)) (by decide +kernel)) dX5_plannedInlet_43 ?_
        exact g_iret F hr hlk hH (by first | rfl | (simp only [mpir, mpim, c1, c2, c3, if_true, if_false, ↓reduceIte]; done) | (simp only [mpir, mpim, c1, c2, c3, if_true, if_false, ↓reduceIte]; rfl)) (by first | rfl | (simp only [mpir, mpim, c1, c2, c3, if_true, if_false, ↓reduceIte]; done) | (simp only [mpir, mpim, c1, c2, c3, if_true, if_false, ↓reduceIte]; rfl)) dX5_plannedInlet_45
      · skip
        refine lv_iload_n hx hb dX5_plannedInlet_26 rfl (lv_at hl 2 rfl) ?_
        refine lv_aload_n hx hb dX5_plannedInlet_27 rfl (lv_at hl 0 rfl) ?_
        refine g_get (x := .int ((mfm E v a) 15 23)) F hH inX5 (hE.2.1 15 (by decide) (by decide)) (cq_mo E _) rfl 23 (by decide) (hts (.fieldLink RX5 149 "DryingKilnModel" "planned" "I") (by decide +kernel)) (fun _ h => h) rfl dX5_plannedInlet_28 ?_
        refine lv_icmp_ge (tgt := 43) hx hb dX5_plannedInlet_31 (by decide) (fun c4 => ?_) (fun c4 => ?_)
        · skip
          refine lv_ldc (v := -1000005) hx hb hown (hts (.constant RX5 68 (-1000005)) (by decide +kernel)) dX5_plannedInlet_43 ?_
          exact g_iret F hr hlk hH (by first | rfl | (simp only [mpir, mpim, c1, c2, c3, c4, if_true, if_false, ↓reduceIte]; done) | (simp only [mpir, mpim, c1, c2, c3, c4, if_true, if_false, ↓reduceIte]; rfl)) (by first | rfl | (simp only [mpir, mpim, c1, c2, c3, c4, if_true, if_false, ↓reduceIte]; done) | (simp only [mpir, mpim, c1, c2, c3, c4, if_true, if_false, ↓reduceIte]; rfl)) dX5_plannedInlet_45
        · skip
          obtain ⟨q, hq, rfl⟩ := plan_ix c2 c4
          have hcq : (nI q).toNatClampNeg = q := nI_clamp (by omega)
          refine lv_aload_n hx hb dX5_plannedInlet_34 rfl (lv_at hl 0 rfl) ?_
          refine g_get (x := .ref (eAd E 26)) F hH inX5 (hE.2.1 15 (by decide) (by decide)) (cq_mo E _) rfl 22 (by decide) (hts (.fieldLink RX5 53 "DryingKilnModel" "plan" "[I") (by decide +kernel)) (fun _ h => h) rfl dX5_plannedInlet_35 ?_
          refine lv_iload_n hx hb dX5_plannedInlet_38 rfl (lv_at hl 2 rfl) ?_
          refine g_iald (n := 300) (x := (mfm E v a) 26 q) F hH (hE.2.1 26 (by decide) (by decide)) rfl q rfl (by omega) (by omega) rfl dX5_plannedInlet_39 ?_
          refine lv_goto (tgt := 45) hx hb dX5_plannedInlet_40 (by decide) ?_
          exact g_iret F hr hlk hH (by first | rfl | (simp only [mpir, mpim, c1, c2, c3, c4, hcq, if_true, if_false, ↓reduceIte]; done) | (simp only [mpir, mpim, c1, c2, c3, c4, hcq, if_true, if_false, ↓reduceIte]; rfl)) (by first | rfl | (simp only [mpir, mpim, c1, c2, c3, c4, hcq, if_true, if_false, ↓reduceIte]; done) | (simp only [mpir, mpim, c1, c2, c3, c4, hcq, if_true, if_false, ↓reduceIte]; rfl)) dX5_plannedInlet_45
    · skip
      refine lv_ldc (v := -1000003) hx hb hown (hts (.constant RX5 66 (-1000003)) (by decide +kernel)) dX5_plannedInlet_15 ?_
      exact g_iret F hr hlk hH (by first | rfl | (simp only [mpir, mpim, c1, c2, if_true, if_false, ↓reduceIte]; done) | (simp only [mpir, mpim, c1, c2, if_true, if_false, ↓reduceIte]; rfl)) (by first | rfl | (simp only [mpir, mpim, c1, c2, if_true, if_false, ↓reduceIte]; done) | (simp only [mpir, mpim, c1, c2, if_true, if_false, ↓reduceIte]; rfl)) dX5_plannedInlet_17

set_option maxHeartbeats 4000000 in
set_option maxRecDepth 100000 in
theorem c_X5_isBetween (l : Launch) (E : Ev) (hE : EO E) (v : Mem) (a : Int32) (b : Int32) (d : Int32) : Ci l yX5_isBetween wsX5_isBetween ({ frames := 0, cells := 0, slots := 0, locals := 0 } : Room) E [.int a, .int b, .int d] v (btw a b d) v := by
  refine Ci.of (cc := cX5_isBetween) (maxL := 3) (ret := (some .boolean)) (own := RX5) (by decide) rfl rfl (Nat.le_of_ble_eq_true rfl) ?_
  intro p e s m below meth c F hr hlk ls hl hH
  obtain ⟨hx, hb, hml, hown, hts⟩ := id F.1
  have hl : lv_has ls 3 [(0, .int a), (1, .int b), (2, .int d)] := hl
  refine lv_iload_n hx hb dX5_isBetween_0 rfl (lv_at hl 0 rfl) ?_
  refine lv_iload_n hx hb dX5_isBetween_1 rfl (lv_at hl 1 rfl) ?_
  refine lv_icmp_lt (tgt := 14) hx hb dX5_isBetween_2 (by decide) (fun c1 => ?_) (fun c1 => ?_)
  · skip
    refine lv_iconst (v := 0) hx hb dX5_isBetween_14 (by decide) ?_
    exact g_zret F hr hlk hH (by rfl) (by first | rfl | (simp only [btw, c1, if_true, if_false, ↓reduceIte]; done) | (simp only [btw, c1, if_true, if_false, ↓reduceIte]; rfl)) (by first | rfl | (simp only [btw, c1, if_true, if_false, ↓reduceIte]; done) | (simp only [btw, c1, if_true, if_false, ↓reduceIte]; rfl)) dX5_isBetween_15
  · skip
    refine lv_iload_n hx hb dX5_isBetween_5 rfl (lv_at hl 0 rfl) ?_
    refine lv_iload_n hx hb dX5_isBetween_6 rfl (lv_at hl 2 rfl) ?_
    refine lv_icmp_gt (tgt := 14) hx hb dX5_isBetween_7 (by decide) (fun c2 => ?_) (fun c2 => ?_)
    · skip
      refine lv_iconst (v := 0) hx hb dX5_isBetween_14 (by decide) ?_
      exact g_zret F hr hlk hH (by rfl) (by first | rfl | (simp only [btw, c1, c2, if_true, if_false, ↓reduceIte]; done) | (simp only [btw, c1, c2, if_true, if_false, ↓reduceIte]; rfl)) (by first | rfl | (simp only [btw, c1, c2, if_true, if_false, ↓reduceIte]; done) | (simp only [btw, c1, c2, if_true, if_false, ↓reduceIte]; rfl)) dX5_isBetween_15
    · skip
      refine lv_iconst (v := 1) hx hb dX5_isBetween_10 (by decide) ?_
      refine lv_goto (tgt := 15) hx hb dX5_isBetween_11 (by decide) ?_
      exact g_zret F hr hlk hH (by rfl) (by first | rfl | (simp only [btw, c1, c2, if_true, if_false, ↓reduceIte]; done) | (simp only [btw, c1, c2, if_true, if_false, ↓reduceIte]; rfl)) (by first | rfl | (simp only [btw, c1, c2, if_true, if_false, ↓reduceIte]; done) | (simp only [btw, c1, c2, if_true, if_false, ↓reduceIte]; rfl)) dX5_isBetween_15

set_option maxHeartbeats 4000000 in
set_option maxRecDepth 100000 in
theorem c_X5_isBoard (l : Launch) (E : Ev) (hE : EO E) (v : Mem) (a : Int32) : Ci l yX5_isBoard wsX5_isBoard ({ frames := 1, cells := 0, slots := 0, locals := 22 } : Room) E [.ref (eAd E 15), .int a] v (mbd E a) v := by
  refine Ci.of (cc := cX5_isBoard) (maxL := 2) (ret := (some .boolean)) (own := RX5) (by decide) rfl rfl (Nat.le_of_ble_eq_true rfl) ?_
  intro p e s m below meth c F hr hlk ls hl hH
  obtain ⟨hx, hb, hml, hown, hts⟩ := id F.1
  have hl : lv_has ls 2 [(0, .ref (eAd E 15)), (1, .int a)] := hl
  have inX5 : ∀ w ∈ wsX50, w ∈ wsX5_isBoard := fun w h => List.mem_cons_of_mem _ (List.mem_append_right _ h)
  refine lv_iload_n hx hb dX5_isBoard_0 rfl (lv_at hl 1 rfl) ?_
  refine lv_iconst (v := 0) hx hb dX5_isBoard_1 (by decide) ?_
  refine lv_aload_n hx hb dX5_isBoard_2 rfl (lv_at hl 0 rfl) ?_
  refine g_get (x := .int (nI (eNb E 3))) F hH inX5 (hE.2.1 15 (by decide) (by decide)) (cq_mo E _) rfl 0 (by decide) (hts (.fieldLink RX5 59 "DryingKilnModel" "boards" "I") (by decide +kernel)) (fun _ h => h) rfl dX5_isBoard_3 ?_
  refine lv_iconst (v := 1) hx hb dX5_isBoard_6 (by decide) ?_
  refine lv_isub hx hb dX5_isBoard_7 ?_
  refine g_si (As := [.int a, .int 0, .int ((nI (eNb E 3)) - 1)]) F hH (c_X5_isBetween l E hE v a 0 ((nI (eNb E 3)) - 1)) (va_cwS 3 hts gX5_isBoard_X5_isBetween rfl rfl rfl (by decide +kernel) ⟨Nat.le_of_ble_eq_true rfl, Nat.le_of_ble_eq_true rfl⟩) rfl hl.1 [] rfl (Nat.le_of_ble_eq_true rfl) dX5_isBoard_8 ⟨Nat.zero_le _, Nat.zero_le _⟩ (fun H locs hH => ?_)
  exact g_zret F hr hlk hH (btw_n _ _ _) rfl rfl dX5_isBoard_11

set_option maxHeartbeats 4000000 in
set_option maxRecDepth 100000 in
theorem c_X5_checkLayer (l : Launch) (E : Ev) (hE : EO E) (v : Mem) (a : Int32) (b : Int32) : Ci l yX5_checkLayer wsX5_checkLayer ({ frames := 2, cells := 0, slots := 0, locals := 43 } : Room) E [.ref (eAd E 15), .int a, .int b] v (mcl E a b) v := by
  refine Ci.of (cc := cX5_checkLayer) (maxL := 3) (ret := (some .int)) (own := RX5) (by decide) rfl rfl (Nat.le_of_ble_eq_true rfl) ?_
  intro p e s m below meth c F hr hlk ls hl hH
  obtain ⟨hx, hb, hml, hown, hts⟩ := id F.1
  have hl : lv_has ls 3 [(0, .ref (eAd E 15)), (1, .int a), (2, .int b)] := hl
  have inX5 : ∀ w ∈ wsX50, w ∈ wsX5_checkLayer := fun w h => List.mem_cons_of_mem _ (List.mem_append_right _ h)
  have hnb := hE.2.2.2.2.1 3 (by decide)
  have hm4 := hE.2.2.2.2.2.2
  refine lv_aload_n hx hb dX5_checkLayer_0 rfl (lv_at hl 0 rfl) ?_
  refine lv_iload_n hx hb dX5_checkLayer_1 rfl (lv_at hl 1 rfl) ?_
  refine g_vi (As := [.int a]) F hH (c_X5_isBoard l E hE v a) (cwV 1 hts gX5_checkLayer_X5_isBoard rfl rfl rfl (by decide +kernel) ⟨Nat.le_of_ble_eq_true rfl, Nat.le_of_ble_eq_true rfl⟩) (hE.2.1 15 (by decide) (by decide)) (cq_mo E _) rfl rfl hl.1 [] rfl (Nat.le_of_ble_eq_true rfl) dX5_checkLayer_2 ⟨Nat.zero_le _, Nat.zero_le _⟩ (fun H locs hH => ?_)
  refine lv_if_ne (tgt := 13) hx hb dX5_checkLayer_5 (by decide) (fun c1 => ?_) (fun c1 => ?_)
  · skip
    obtain ⟨j, hj, rfl⟩ := btw_ix (by omega) c1
    have hcl : (nI j).toNatClampNeg = j := nI_clamp (by omega)
    have hln := hE.2.2.2.2.2.1 j (by omega)
    refine lv_iload_n hx hb dX5_checkLayer_13 rfl (lv_at hl 2 rfl) ?_
    refine lv_iconst (v := 0) hx hb dX5_checkLayer_14 (by decide) ?_
    refine lv_aload_n hx hb dX5_checkLayer_15 rfl (lv_at hl 0 rfl) ?_
    refine g_get (x := .ref (eAd E 16)) F hH inX5 (hE.2.1 15 (by decide) (by decide)) (cq_mo E _) rfl 1 (by decide) (hts (.fieldLink RX5 7 "DryingKilnModel" "layersOf" "[I") (by decide +kernel)) (fun _ h => h) rfl dX5_checkLayer_16 ?_
    refine lv_iload_n hx hb dX5_checkLayer_19 rfl (lv_at hl 1 rfl) ?_
    refine g_iald (n := 6) (x := nI (eLn E j)) F hH (hE.2.1 16 (by decide) (by decide)) rfl j rfl (by omega) (by omega) (lrow_at (by omega)) dX5_checkLayer_20 ?_
    refine lv_iconst (v := 1) hx hb dX5_checkLayer_21 (by decide) ?_
    refine lv_isub hx hb dX5_checkLayer_22 ?_
    refine g_si (As := [.int b, .int 0, .int ((nI (eLn E j)) - 1)]) F hH (c_X5_isBetween l E hE v b 0 ((nI (eLn E j)) - 1)) (va_cwS 3 hts gX5_checkLayer_X5_isBetween rfl rfl rfl (by decide +kernel) ⟨Nat.le_of_ble_eq_true rfl, Nat.le_of_ble_eq_true rfl⟩) rfl hl.1 [] rfl (Nat.le_of_ble_eq_true rfl) dX5_checkLayer_23 ⟨Nat.zero_le _, Nat.zero_le _⟩ (fun H locs hH => ?_)
    refine lv_if_eq (tgt := 33) hx hb dX5_checkLayer_26 (by decide) (fun c2 => ?_) (fun c2 => ?_)
    · skip
      refine lv_ldc (v := -1000002) hx hb hown (hts (.constant RX5 74 (-1000002)) (by decide +kernel)) dX5_checkLayer_33 ?_
      exact g_iret F hr hlk hH (by first | rfl | (simp only [mcl, c1, hcl, c2, if_true, if_false, ↓reduceIte]; done) | (simp only [mcl, c1, hcl, c2, if_true, if_false, ↓reduceIte]; rfl)) (by first | rfl | (simp only [mcl, c1, hcl, c2, if_true, if_false, ↓reduceIte]; done) | (simp only [mcl, c1, hcl, c2, if_true, if_false, ↓reduceIte]; rfl)) dX5_checkLayer_35
    · skip
      refine lv_iconst (v := 0) hx hb dX5_checkLayer_29 (by decide) ?_
      refine lv_goto (tgt := 35) hx hb dX5_checkLayer_30 (by decide) ?_
      exact g_iret F hr hlk hH (by first | rfl | (simp only [mcl, c1, hcl, c2, if_true, if_false, ↓reduceIte]; done) | (simp only [mcl, c1, hcl, c2, if_true, if_false, ↓reduceIte]; rfl)) (by first | rfl | (simp only [mcl, c1, hcl, c2, if_true, if_false, ↓reduceIte]; done) | (simp only [mcl, c1, hcl, c2, if_true, if_false, ↓reduceIte]; rfl)) dX5_checkLayer_35
  · skip
    refine lv_ldc (v := -1000001) hx hb hown (hts (.constant RX5 73 (-1000001)) (by decide +kernel)) dX5_checkLayer_8 ?_
    refine lv_goto (tgt := 35) hx hb dX5_checkLayer_10 (by decide) ?_
    exact g_iret F hr hlk hH (by first | rfl | (simp only [mcl, c1, if_true, if_false, ↓reduceIte]; done) | (simp only [mcl, c1, if_true, if_false, ↓reduceIte]; rfl)) (by first | rfl | (simp only [mcl, c1, if_true, if_false, ↓reduceIte]; done) | (simp only [mcl, c1, if_true, if_false, ↓reduceIte]; rfl)) dX5_checkLayer_35

set_option maxHeartbeats 4000000 in
set_option maxRecDepth 100000 in
theorem c_X5_setLayer (l : Launch) (E : Ev) (hE : EO E) (v : Mem) (a : Int32) (b : Int32) (d : Int32) : Ci l yX5_setLayer wsX5_setLayer ({ frames := 3, cells := 0, slots := 0, locals := 65 } : Room) E [.ref (eAd E 15), .int a, .int b, .int d] v (mslr E v a b d) (mslm E v a b d) := by
  refine Ci.of (cc := cX5_setLayer) (maxL := 6) (ret := (some .int)) (own := RX5) (by decide) rfl rfl (Nat.le_of_ble_eq_true rfl) ?_
  intro p e s m below meth c F hr hlk ls hl hH
  obtain ⟨hx, hb, hml, hown, hts⟩ := id F.1
  have hl : lv_has ls 6 [(0, .ref (eAd E 15)), (1, .int a), (2, .int b), (3, .int d)] := hl
  have inX5 : ∀ w ∈ wsX50, w ∈ wsX5_setLayer := fun w h => List.mem_cons_of_mem _ (List.mem_append_right _ h)
  have hnb := hE.2.2.2.2.1 3 (by decide)
  have hm4 := hE.2.2.2.2.2.2
  refine lv_aload_n hx hb dX5_setLayer_0 rfl (lv_at hl 0 rfl) ?_
  refine lv_iload_n hx hb dX5_setLayer_1 rfl (lv_at hl 1 rfl) ?_
  refine lv_iload_n hx hb dX5_setLayer_2 rfl (lv_at hl 2 rfl) ?_
  refine g_vi (As := [.int a, .int b]) F hH (c_X5_checkLayer l E hE v a b) (cwV 2 hts gX5_setLayer_X5_checkLayer rfl rfl rfl (by decide +kernel) ⟨Nat.le_of_ble_eq_true rfl, Nat.le_of_ble_eq_true rfl⟩) (hE.2.1 15 (by decide) (by decide)) (cq_mo E _) rfl rfl hl.1 [] rfl (Nat.le_of_ble_eq_true rfl) dX5_setLayer_3 ⟨Nat.zero_le _, Nat.zero_le _⟩ (fun H locs hH => ?_)
  refine lv_istore (lv' := [(4, .int (mcl E a b)), (0, .ref (eAd E 15)), (1, .int a), (2, .int b), (3, .int d)]) hx hb dX5_setLayer_6 hl (by decide) rfl (fun ls hl => ?_)
  refine lv_iload hx hb dX5_setLayer_8 (lv_at hl 0 rfl) ?_
  refine lv_if_ge (tgt := 16) hx hb dX5_setLayer_10 (by decide) (fun c1 => ?_) (fun c1 => ?_)
  · skip
    obtain ⟨j, q, hj, hq, rfl, rfl⟩ := mcl_ok hE c1
    have hcl : (nI j).toNatClampNeg = j := nI_clamp (by omega)
    have hln := hE.2.2.2.2.2.1 j (by omega)
    have hcq : (nI q).toNatClampNeg = q := nI_clamp (by omega)
    refine lv_iload_n hx hb dX5_setLayer_16 rfl (lv_at hl 4 rfl) ?_
    refine lv_iconst (v := 0) hx hb dX5_setLayer_17 (by decide) ?_
    refine lv_sipush (v := 2000) hx hb dX5_setLayer_18 (by decide) ?_
    refine g_si (As := [.int d, .int 0, .int 2000]) F hH (c_X5_isBetween l E hE v d 0 2000) (va_cwS 3 hts gX5_setLayer_X5_isBetween rfl rfl rfl (by decide +kernel) ⟨Nat.le_of_ble_eq_true rfl, Nat.le_of_ble_eq_true rfl⟩) rfl hl.1 [] rfl (Nat.le_of_ble_eq_true rfl) dX5_setLayer_21 ⟨Nat.zero_le _, Nat.zero_le _⟩ (fun H locs hH => ?_)
    refine lv_if_ne (tgt := 30) hx hb dX5_setLayer_24 (by decide) (fun c2 => ?_) (fun c2 => ?_)
    · skip
      refine lv_aload_n hx hb dX5_setLayer_30 rfl (lv_at hl 1 rfl) ?_
      refine g_get (x := .ref (eAd E 17)) F hH inX5 (hE.2.1 15 (by decide) (by decide)) (cq_mo E _) rfl 2 (by decide) (hts (.fieldLink RX5 13 "DryingKilnModel" "cells" "[I") (by decide +kernel)) (fun _ h => h) rfl dX5_setLayer_31 ?_
      refine lv_bipush (v := 9) hx hb dX5_setLayer_34 (by decide) ?_
      refine lv_iload_n hx hb dX5_setLayer_36 rfl (lv_at hl 2 rfl) ?_
      refine lv_imul hx hb dX5_setLayer_37 ?_
      rw [nI_9 j]
      refine lv_iload_n hx hb dX5_setLayer_38 rfl (lv_at hl 3 rfl) ?_
      refine lv_iadd hx hb dX5_setLayer_39 ?_
      rw [nI_add (9 * j) q]
      refine g_iald (n := 54) (x := v 17 (9 * j + q)) F hH (hE.2.1 17 (by decide) (by decide)) rfl (9 * j + q) rfl (by omega) (by omega) rfl dX5_setLayer_40 ?_
      refine lv_istore (lv' := [(5, .int (v 17 (9 * j + q))), (4, .int (mcl E (nI j) (nI q))), (0, .ref (eAd E 15)), (1, .int (nI j)), (2, .int (nI q)), (3, .int d)]) hx hb dX5_setLayer_41 hl (by decide) rfl (fun ls hl => ?_)
      refine lv_aload_n hx hb dX5_setLayer_43 rfl (lv_at hl 2 rfl) ?_
      refine g_get (x := .ref (eAd E 17)) F hH inX5 (hE.2.1 15 (by decide) (by decide)) (cq_mo E _) rfl 2 (by decide) (hts (.fieldLink RX5 13 "DryingKilnModel" "cells" "[I") (by decide +kernel)) (fun _ h => h) rfl dX5_setLayer_44 ?_
      refine lv_bipush (v := 9) hx hb dX5_setLayer_47 (by decide) ?_
      refine lv_iload_n hx hb dX5_setLayer_49 rfl (lv_at hl 3 rfl) ?_
      refine lv_imul hx hb dX5_setLayer_50 ?_
      rw [nI_9 j]
      refine lv_iload_n hx hb dX5_setLayer_51 rfl (lv_at hl 4 rfl) ?_
      refine lv_iadd hx hb dX5_setLayer_52 ?_
      rw [nI_add (9 * j) q]
      refine lv_iload_n hx hb dX5_setLayer_53 rfl (lv_at hl 5 rfl) ?_
      refine g_iast (n := 54) F hH (hE.2.1 17 (by decide) (by decide)) (fun _ => rfl) (9 * j + q) rfl (by omega) (by omega) dX5_setLayer_54 (fun H locs hH => ?_)
      refine lv_iload hx hb dX5_setLayer_55 (lv_at hl 0 rfl) ?_
      exact g_iret F hr hlk hH (by first | rfl | (simp only [mslr, mslm, c1, hcl, hcq, c2, if_true, if_false, ↓reduceIte]; done) | (simp only [mslr, mslm, c1, hcl, hcq, c2, if_true, if_false, ↓reduceIte]; rfl)) (by first | rfl | (simp only [mslr, mslm, c1, hcl, hcq, c2, if_true, if_false, ↓reduceIte]; done) | (simp only [mslr, mslm, c1, hcl, hcq, c2, if_true, if_false, ↓reduceIte]; rfl)) dX5_setLayer_57
    · skip
      refine lv_ldc (v := -1000003) hx hb hown (hts (.constant RX5 66 (-1000003)) (by decide +kernel)) dX5_setLayer_27 ?_
      exact g_iret F hr hlk hH (by first | rfl | (simp only [mslr, mslm, c1, hcl, hcq, c2, if_true, if_false, ↓reduceIte]; done) | (simp only [mslr, mslm, c1, hcl, hcq, c2, if_true, if_false, ↓reduceIte]; rfl)) (by first | rfl | (simp only [mslr, mslm, c1, hcl, hcq, c2, if_true, if_false, ↓reduceIte]; done) | (simp only [mslr, mslm, c1, hcl, hcq, c2, if_true, if_false, ↓reduceIte]; rfl)) dX5_setLayer_29
  · skip
    refine lv_iload hx hb dX5_setLayer_13 (lv_at hl 0 rfl) ?_
    exact g_iret F hr hlk hH (by first | rfl | (simp only [mslr, mslm, c1, if_true, if_false, ↓reduceIte]; done) | (simp only [mslr, mslm, c1, if_true, if_false, ↓reduceIte]; rfl)) (by first | rfl | (simp only [mslr, mslm, c1, if_true, if_false, ↓reduceIte]; done) | (simp only [mslr, mslm, c1, if_true, if_false, ↓reduceIte]; rfl)) dX5_setLayer_15

set_option maxHeartbeats 4000000 in
set_option maxRecDepth 100000 in
theorem c_X5_layerMoisture (l : Launch) (E : Ev) (hE : EO E) (v : Mem) (a : Int32) (b : Int32) : Ci l yX5_layerMoisture wsX5_layerMoisture ({ frames := 3, cells := 0, slots := 0, locals := 65 } : Room) E [.ref (eAd E 15), .int a, .int b] v (mlm E v a b) v := by
  refine Ci.of (cc := cX5_layerMoisture) (maxL := 4) (ret := (some .int)) (own := RX5) (by decide) rfl rfl (Nat.le_of_ble_eq_true rfl) ?_
  intro p e s m below meth c F hr hlk ls hl hH
  obtain ⟨hx, hb, hml, hown, hts⟩ := id F.1
  have hl : lv_has ls 4 [(0, .ref (eAd E 15)), (1, .int a), (2, .int b)] := hl
  have inX5 : ∀ w ∈ wsX50, w ∈ wsX5_layerMoisture := fun w h => List.mem_cons_of_mem _ (List.mem_append_right _ h)
  have hnb := hE.2.2.2.2.1 3 (by decide)
  have hm4 := hE.2.2.2.2.2.2
  refine lv_aload_n hx hb dX5_layerMoisture_0 rfl (lv_at hl 0 rfl) ?_
  refine lv_iload_n hx hb dX5_layerMoisture_1 rfl (lv_at hl 1 rfl) ?_
  refine lv_iload_n hx hb dX5_layerMoisture_2 rfl (lv_at hl 2 rfl) ?_
  refine g_vi (As := [.int a, .int b]) F hH (c_X5_checkLayer l E hE v a b) (cwV 2 hts gX5_layerMoisture_X5_checkLayer rfl rfl rfl (by decide +kernel) ⟨Nat.le_of_ble_eq_true rfl, Nat.le_of_ble_eq_true rfl⟩) (hE.2.1 15 (by decide) (by decide)) (cq_mo E _) rfl rfl hl.1 [] rfl (Nat.le_of_ble_eq_true rfl) dX5_layerMoisture_3 ⟨Nat.zero_le _, Nat.zero_le _⟩ (fun H locs hH => ?_)
  refine lv_istore_n (lv' := [(3, .int (mcl E a b)), (0, .ref (eAd E 15)), (1, .int a), (2, .int b)]) hx hb dX5_layerMoisture_6 rfl hl (by decide) rfl (fun ls hl => ?_)
  refine lv_iload_n hx hb dX5_layerMoisture_7 rfl (lv_at hl 0 rfl) ?_
  refine lv_if_ge (tgt := 15) hx hb dX5_layerMoisture_8 (by decide) (fun c1 => ?_) (fun c1 => ?_)
  · skip
    obtain ⟨j, q, hj, hq, rfl, rfl⟩ := mcl_ok hE c1
    have hcl : (nI j).toNatClampNeg = j := nI_clamp (by omega)
    have hln := hE.2.2.2.2.2.1 j (by omega)
    have hcq : (nI q).toNatClampNeg = q := nI_clamp (by omega)
    refine lv_aload_n hx hb dX5_layerMoisture_15 rfl (lv_at hl 1 rfl) ?_
    refine g_get (x := .ref (eAd E 17)) F hH inX5 (hE.2.1 15 (by decide) (by decide)) (cq_mo E _) rfl 2 (by decide) (hts (.fieldLink RX5 13 "DryingKilnModel" "cells" "[I") (by decide +kernel)) (fun _ h => h) rfl dX5_layerMoisture_16 ?_
    refine lv_bipush (v := 9) hx hb dX5_layerMoisture_19 (by decide) ?_
    refine lv_iload_n hx hb dX5_layerMoisture_21 rfl (lv_at hl 2 rfl) ?_
    refine lv_imul hx hb dX5_layerMoisture_22 ?_
    rw [nI_9 j]
    refine lv_iload_n hx hb dX5_layerMoisture_23 rfl (lv_at hl 3 rfl) ?_
    refine lv_iadd hx hb dX5_layerMoisture_24 ?_
    rw [nI_add (9 * j) q]
    refine g_iald (n := 54) (x := v 17 (9 * j + q)) F hH (hE.2.1 17 (by decide) (by decide)) rfl (9 * j + q) rfl (by omega) (by omega) rfl dX5_layerMoisture_25 ?_
    exact g_iret F hr hlk hH (by first | rfl | (simp only [mlm, c1, hcl, hcq, if_true, if_false, ↓reduceIte]; done) | (simp only [mlm, c1, hcl, hcq, if_true, if_false, ↓reduceIte]; rfl)) (by first | rfl | (simp only [mlm, c1, hcl, hcq, if_true, if_false, ↓reduceIte]; done) | (simp only [mlm, c1, hcl, hcq, if_true, if_false, ↓reduceIte]; rfl)) dX5_layerMoisture_26
  · skip
    refine lv_iload_n hx hb dX5_layerMoisture_11 rfl (lv_at hl 0 rfl) ?_
    refine lv_goto (tgt := 26) hx hb dX5_layerMoisture_12 (by decide) ?_
    exact g_iret F hr hlk hH (by first | rfl | (simp only [mlm, c1, if_true, if_false, ↓reduceIte]; done) | (simp only [mlm, c1, if_true, if_false, ↓reduceIte]; rfl)) (by first | rfl | (simp only [mlm, c1, if_true, if_false, ↓reduceIte]; done) | (simp only [mlm, c1, if_true, if_false, ↓reduceIte]; rfl)) dX5_layerMoisture_26

set_option maxHeartbeats 4000000 in
set_option maxRecDepth 100000 in
theorem c_X5_sumOf (l : Launch) (E : Ev) (hE : EO E) (v : Mem) (b : Nat) (hb : b < eNb E 3) : Ci l yX5_sumOf wsX5_sumOf ({ frames := 0, cells := 0, slots := 0, locals := 0 } : Room) E [.ref (eAd E 15), .int (nI b)] v (psum (mrow v b) (eLn E b)) v := by
  refine Ci.of (cc := cX5_sumOf) (maxL := 4) (ret := (some .int)) (own := RX5) (by decide) rfl rfl (Nat.le_of_ble_eq_true rfl) ?_
  intro p e s m below meth c F hr hlk ls hl hH
  obtain ⟨hx, hb, hml, hown, hts⟩ := id F.1
  have hl : lv_has ls 4 [(0, .ref (eAd E 15)), (1, .int (nI b))] := hl
  have inX5 : ∀ w ∈ wsX50, w ∈ wsX5_sumOf := fun w h => List.mem_cons_of_mem _ (List.mem_append_right _ h)
  have hnb := hE.2.2.2.2.1 3 (by decide)
  have hm4 := hE.2.2.2.2.2.2
  have hln := hE.2.2.2.2.2.1 b (by omega)
  refine lv_iconst (v := 0) hx hb dX5_sumOf_0 (by decide) ?_
  refine lv_istore_n (lv' := [(2, .int 0), (0, .ref (eAd E 15)), (1, .int (nI b))]) hx hb dX5_sumOf_1 rfl hl (by decide) rfl (fun ls hl => ?_)
  refine lv_iconst (v := 0) hx hb dX5_sumOf_2 (by decide) ?_
  refine lv_istore_n (lv' := [(3, .int 0), (2, .int 0), (0, .ref (eAd E 15)), (1, .int (nI b))]) hx hb dX5_sumOf_3 rfl hl (by decide) rfl (fun ls hl => ?_)
  have loop4 : ∀ (n t : Nat), t + n = eLn E b → ∀ (H : Heap) (locs : List Loc) (ls : Array Slot), HS E s.heap v H locs → lv_has ls 4 [(0, .ref (eAd E 15)), (1, .int (nI b)), (2, .int (psum (mrow v b) t)), (3, .int (nI t))] → W p l e ({ frames := 0, cells := 0, slots := 0, locals := 0 } : Room) s m ([.ref (eAd E 15), .int (nI b)] : List Value).toArray below meth c H locs 0 0 (Zi below E ([.ref (eAd E 15), .int (nI b)] : List Value).toArray s (psum (mrow v b) (eLn E b)) v) (F0 m 4 ls []) := by
    intro n
    induction n with
    | zero =>
      intro t ht H locs ls hH hl
      obtain rfl : eLn E b = t := by omega
      refine lv_iload_n hx hb dX5_sumOf_4 rfl (lv_at hl 3 rfl) ?_
      refine lv_aload_n hx hb dX5_sumOf_5 rfl (lv_at hl 0 rfl) ?_
      refine g_get (x := .ref (eAd E 16)) F hH inX5 (hE.2.1 15 (by decide) (by decide)) (cq_mo E _) rfl 1 (by decide) (hts (.fieldLink RX5 7 "DryingKilnModel" "layersOf" "[I") (by decide +kernel)) (fun _ h => h) rfl dX5_sumOf_6 ?_
      refine lv_iload_n hx hb dX5_sumOf_9 rfl (lv_at hl 1 rfl) ?_
      refine g_iald (n := 6) (x := nI (eLn E b)) F hH (hE.2.1 16 (by decide) (by decide)) rfl b rfl (by omega) (by omega) (lrow_at (by omega)) dX5_sumOf_10 ?_
      refine lv_icmp_ge (tgt := 34) hx hb dX5_sumOf_11 (by decide) (fun c1 => ?_) (fun c1 => ?_)
      · skip
        refine lv_iload_n hx hb dX5_sumOf_34 rfl (lv_at hl 2 rfl) ?_
        exact g_iret F hr hlk hH (by first | rfl | (simp only [c1, if_true, if_false, ↓reduceIte]; done) | (simp only [c1, if_true, if_false, ↓reduceIte]; rfl)) (by first | rfl | (simp only [c1, if_true, if_false, ↓reduceIte]; done) | (simp only [c1, if_true, if_false, ↓reduceIte]; rfl)) dX5_sumOf_35
      · skip
        exact absurd (nI_le (Nat.le_refl _) (by omega)) c1
    | succ n ih =>
      intro t ht H locs ls hH hl
      have htN : t < eLn E b := by omega
      refine lv_iload_n hx hb dX5_sumOf_4 rfl (lv_at hl 3 rfl) ?_
      refine lv_aload_n hx hb dX5_sumOf_5 rfl (lv_at hl 0 rfl) ?_
      refine g_get (x := .ref (eAd E 16)) F hH inX5 (hE.2.1 15 (by decide) (by decide)) (cq_mo E _) rfl 1 (by decide) (hts (.fieldLink RX5 7 "DryingKilnModel" "layersOf" "[I") (by decide +kernel)) (fun _ h => h) rfl dX5_sumOf_6 ?_
      refine lv_iload_n hx hb dX5_sumOf_9 rfl (lv_at hl 1 rfl) ?_
      refine g_iald (n := 6) (x := nI (eLn E b)) F hH (hE.2.1 16 (by decide) (by decide)) rfl b rfl (by omega) (by omega) (lrow_at (by omega)) dX5_sumOf_10 ?_
      refine lv_icmp_ge (tgt := 34) hx hb dX5_sumOf_11 (by decide) (fun c2 => ?_) (fun c2 => ?_)
      · skip
        exact absurd c2 (nI_ge htN (by omega))
      · skip
        refine lv_iload_n hx hb dX5_sumOf_14 rfl (lv_at hl 2 rfl) ?_
        refine lv_aload_n hx hb dX5_sumOf_15 rfl (lv_at hl 0 rfl) ?_
        refine g_get (x := .ref (eAd E 17)) F hH inX5 (hE.2.1 15 (by decide) (by decide)) (cq_mo E _) rfl 2 (by decide) (hts (.fieldLink RX5 13 "DryingKilnModel" "cells" "[I") (by decide +kernel)) (fun _ h => h) rfl dX5_sumOf_16 ?_
        refine lv_bipush (v := 9) hx hb dX5_sumOf_19 (by decide) ?_
        refine lv_iload_n hx hb dX5_sumOf_21 rfl (lv_at hl 1 rfl) ?_
        refine lv_imul hx hb dX5_sumOf_22 ?_
        rw [nI_9 b]
        refine lv_iload_n hx hb dX5_sumOf_23 rfl (lv_at hl 3 rfl) ?_
        refine lv_iadd hx hb dX5_sumOf_24 ?_
        rw [nI_add (9 * b) t]
        refine g_iald (n := 54) (x := v 17 (9 * b + t)) F hH (hE.2.1 17 (by decide) (by decide)) rfl (9 * b + t) rfl (by omega) (by omega) rfl dX5_sumOf_25 ?_
        refine lv_iadd hx hb dX5_sumOf_26 ?_
        refine lv_istore_n (lv' := [(2, .int ((psum (mrow v b) t) + (v 17 (9 * b + t)))), (0, .ref (eAd E 15)), (1, .int (nI b)), (3, .int (nI t))]) hx hb dX5_sumOf_27 rfl hl (by decide) rfl (fun ls hl => ?_)
        refine lv_iinc (v := nI (t + 1)) (lv' := [(3, .int (nI (t + 1))), (2, .int ((psum (mrow v b) t) + (v 17 (9 * b + t)))), (0, .ref (eAd E 15)), (1, .int (nI b))]) hx hb dX5_sumOf_28 hl (k := 3) rfl (nI_1 _) (by decide) rfl (fun ls hl => ?_)
        refine lv_goto (tgt := 4) hx hb dX5_sumOf_31 (by decide) ?_
        exact ih (t + 1) (by omega) _ _ ls (by first | exact hH | (simp only [c2, if_true, if_false, ↓reduceIte]; exact hH)) (by first | exact lv_sub hl [2, 3, 1, 0] rfl | (have h := lv_sub hl [2, 3, 1, 0] rfl; simp only [c2, if_true, if_false, ↓reduceIte]; exact h))
  exact loop4 (eLn E b) 0 (Nat.zero_add _) _ _ ls hH (lv_sub hl [2, 3, 1, 0] rfl)

set_option maxHeartbeats 4000000 in
set_option maxRecDepth 100000 in
theorem c_X5_averageOf (l : Launch) (E : Ev) (hE : EO E) (v : Mem) (b : Nat) (hb : b < eNb E 3) : Ci l yX5_averageOf wsX5_averageOf ({ frames := 1, cells := 0, slots := 0, locals := 23 } : Room) E [.ref (eAd E 15), .int (nI b)] v (mavg E v b) v := by
  refine Ci.of (cc := cX5_averageOf) (maxL := 2) (ret := (some .int)) (own := RX5) (by decide) rfl rfl (Nat.le_of_ble_eq_true rfl) ?_
  intro p e s m below meth c F hr hlk ls hl hH
  obtain ⟨hx, hb, hml, hown, hts⟩ := id F.1
  have hl : lv_has ls 2 [(0, .ref (eAd E 15)), (1, .int (nI b))] := hl
  have inX5 : ∀ w ∈ wsX50, w ∈ wsX5_averageOf := fun w h => List.mem_cons_of_mem _ (List.mem_append_right _ h)
  have hnb := hE.2.2.2.2.1 3 (by decide)
  have hm4 := hE.2.2.2.2.2.2
  have hln := hE.2.2.2.2.2.1 b (by omega)
  refine lv_aload_n hx hb dX5_averageOf_0 rfl (lv_at hl 0 rfl) ?_
  refine lv_iload_n hx hb dX5_averageOf_1 rfl (lv_at hl 1 rfl) ?_
  refine g_vi (As := [.int (nI b)]) F hH (c_X5_sumOf l E hE v b (by first | assumption | omega | decide)) (cwV 1 hts gX5_averageOf_X5_sumOf rfl rfl rfl (by decide +kernel) ⟨Nat.le_of_ble_eq_true rfl, Nat.le_of_ble_eq_true rfl⟩) (hE.2.1 15 (by decide) (by decide)) (cq_mo E _) rfl rfl hl.1 [] rfl (Nat.le_of_ble_eq_true rfl) dX5_averageOf_2 ⟨Nat.zero_le _, Nat.zero_le _⟩ (fun H locs hH => ?_)
  refine lv_aload_n hx hb dX5_averageOf_5 rfl (lv_at hl 0 rfl) ?_
  refine g_get (x := .ref (eAd E 16)) F hH inX5 (hE.2.1 15 (by decide) (by decide)) (cq_mo E _) rfl 1 (by decide) (hts (.fieldLink RX5 7 "DryingKilnModel" "layersOf" "[I") (by decide +kernel)) (fun _ h => h) rfl dX5_averageOf_6 ?_
  refine lv_iload_n hx hb dX5_averageOf_9 rfl (lv_at hl 1 rfl) ?_
  refine g_iald (n := 6) (x := nI (eLn E b)) F hH (hE.2.1 16 (by decide) (by decide)) rfl b rfl (by omega) (by omega) (lrow_at (by omega)) dX5_averageOf_10 ?_
  refine lv_idiv hx hb dX5_averageOf_11 (nI_ne0 (by omega) (by omega)) ?_
  exact g_iret F hr hlk hH rfl rfl dX5_averageOf_12

set_option maxHeartbeats 4000000 in
set_option maxRecDepth 100000 in
theorem c_X5_strainOf (l : Launch) (E : Ev) (hE : EO E) (v : Mem) (b : Nat) (hb : b < eNb E 3) : Ci l yX5_strainOf wsX5_strainOf ({ frames := 0, cells := 0, slots := 0, locals := 0 } : Room) E [.ref (eAd E 15), .int (nI b)] v (mstr E v b) v := by
  refine Ci.of (cc := cX5_strainOf) (maxL := 5) (ret := (some .int)) (own := RX5) (by decide) rfl rfl (Nat.le_of_ble_eq_true rfl) ?_
  intro p e s m below meth c F hr hlk ls hl hH
  obtain ⟨hx, hb, hml, hown, hts⟩ := id F.1
  have hl : lv_has ls 5 [(0, .ref (eAd E 15)), (1, .int (nI b))] := hl
  have inX5 : ∀ w ∈ wsX50, w ∈ wsX5_strainOf := fun w h => List.mem_cons_of_mem _ (List.mem_append_right _ h)
  have hnb := hE.2.2.2.2.1 3 (by decide)
  have hm4 := hE.2.2.2.2.2.2
  have hln := hE.2.2.2.2.2.1 b (by omega)
  refine lv_iconst (v := 0) hx hb dX5_strainOf_0 (by decide) ?_
  refine lv_istore_n (lv' := [(2, .int 0), (0, .ref (eAd E 15)), (1, .int (nI b))]) hx hb dX5_strainOf_1 rfl hl (by decide) rfl (fun ls hl => ?_)
  refine lv_iconst (v := 0) hx hb dX5_strainOf_2 (by decide) ?_
  refine lv_istore_n (lv' := [(3, .int 0), (2, .int 0), (0, .ref (eAd E 15)), (1, .int (nI b))]) hx hb dX5_strainOf_3 rfl hl (by decide) rfl (fun ls hl => ?_)
  have loop4 : ∀ (n t : Nat), t + n = eLn E b → ∀ (H : Heap) (locs : List Loc) (ls : Array Slot), HS E s.heap v H locs → lv_has ls 5 [(0, .ref (eAd E 15)), (1, .int (nI b)), (2, .int (mmx (mrow v b) t)), (3, .int (nI t))] → W p l e ({ frames := 0, cells := 0, slots := 0, locals := 0 } : Room) s m ([.ref (eAd E 15), .int (nI b)] : List Value).toArray below meth c H locs 0 0 (Zi below E ([.ref (eAd E 15), .int (nI b)] : List Value).toArray s (mstr E v b) v) (F0 m 4 ls []) := by
    intro n
    induction n with
    | zero =>
      intro t ht H locs ls hH hl
      obtain rfl : eLn E b = t := by omega
      refine lv_iload_n hx hb dX5_strainOf_4 rfl (lv_at hl 3 rfl) ?_
      refine lv_aload_n hx hb dX5_strainOf_5 rfl (lv_at hl 0 rfl) ?_
      refine g_get (x := .ref (eAd E 16)) F hH inX5 (hE.2.1 15 (by decide) (by decide)) (cq_mo E _) rfl 1 (by decide) (hts (.fieldLink RX5 7 "DryingKilnModel" "layersOf" "[I") (by decide +kernel)) (fun _ h => h) rfl dX5_strainOf_6 ?_
      refine lv_iload_n hx hb dX5_strainOf_9 rfl (lv_at hl 1 rfl) ?_
      refine g_iald (n := 6) (x := nI (eLn E b)) F hH (hE.2.1 16 (by decide) (by decide)) rfl b rfl (by omega) (by omega) (lrow_at (by omega)) dX5_strainOf_10 ?_
      refine lv_icmp_ge (tgt := 51) hx hb dX5_strainOf_11 (by decide) (fun c1 => ?_) (fun c1 => ?_)
      · skip
        refine lv_aload_n hx hb dX5_strainOf_51 rfl (lv_at hl 0 rfl) ?_
        refine g_get (x := .ref (eAd E 17)) F hH inX5 (hE.2.1 15 (by decide) (by decide)) (cq_mo E _) rfl 2 (by decide) (hts (.fieldLink RX5 13 "DryingKilnModel" "cells" "[I") (by decide +kernel)) (fun _ h => h) rfl dX5_strainOf_52 ?_
        refine lv_bipush (v := 9) hx hb dX5_strainOf_55 (by decide) ?_
        refine lv_iload_n hx hb dX5_strainOf_57 rfl (lv_at hl 1 rfl) ?_
        refine lv_imul hx hb dX5_strainOf_58 ?_
        rw [nI_9 b]
        refine g_iald (n := 54) (x := mrow v b 0) F hH (hE.2.1 17 (by decide) (by decide)) rfl (9 * b) rfl (by omega) (by omega) rfl dX5_strainOf_59 ?_
        refine lv_istore_n (lv' := [(3, .int (mrow v b 0)), (0, .ref (eAd E 15)), (1, .int (nI b)), (2, .int (mmx (mrow v b) (eLn E b)))]) hx hb dX5_strainOf_60 rfl hl (by decide) rfl (fun ls hl => ?_)
        refine lv_aload_n hx hb dX5_strainOf_61 rfl (lv_at hl 1 rfl) ?_
        refine g_get (x := .ref (eAd E 17)) F hH inX5 (hE.2.1 15 (by decide) (by decide)) (cq_mo E _) rfl 2 (by decide) (hts (.fieldLink RX5 13 "DryingKilnModel" "cells" "[I") (by decide +kernel)) (fun _ h => h) rfl dX5_strainOf_62 ?_
        refine lv_bipush (v := 9) hx hb dX5_strainOf_65 (by decide) ?_
        refine lv_iload_n hx hb dX5_strainOf_67 rfl (lv_at hl 2 rfl) ?_
        refine lv_imul hx hb dX5_strainOf_68 ?_
        rw [nI_9 b]
        refine lv_aload_n hx hb dX5_strainOf_69 rfl (lv_at hl 1 rfl) ?_
        refine g_get (x := .ref (eAd E 16)) F hH inX5 (hE.2.1 15 (by decide) (by decide)) (cq_mo E _) rfl 1 (by decide) (hts (.fieldLink RX5 7 "DryingKilnModel" "layersOf" "[I") (by decide +kernel)) (fun _ h => h) rfl dX5_strainOf_70 ?_
        refine lv_iload_n hx hb dX5_strainOf_73 rfl (lv_at hl 2 rfl) ?_
        refine g_iald (n := 6) (x := nI (eLn E b)) F hH (hE.2.1 16 (by decide) (by decide)) rfl b rfl (by omega) (by omega) (lrow_at (by omega)) dX5_strainOf_74 ?_
        refine lv_iadd hx hb dX5_strainOf_75 ?_
        rw [nI_add (9 * b) (eLn E b)]
        refine lv_iconst (v := 1) hx hb dX5_strainOf_76 (by decide) ?_
        refine lv_isub hx hb dX5_strainOf_77 ?_
        rw [show (nI (9 * b + (eLn E b))) - 1 = nI (9 * b + (eLn E b - 1)) from (by rw [nI_m1 (by omega)]; congr 1; omega)]
        refine g_iald (n := 54) (x := mrow v b (eLn E b - 1)) F hH (hE.2.1 17 (by decide) (by decide)) rfl (9 * b + (eLn E b - 1)) rfl (by omega) (by omega) rfl dX5_strainOf_78 ?_
        refine lv_istore (lv' := [(4, .int (mrow v b (eLn E b - 1))), (3, .int (mrow v b 0)), (0, .ref (eAd E 15)), (1, .int (nI b)), (2, .int (mmx (mrow v b) (eLn E b)))]) hx hb dX5_strainOf_79 hl (by decide) rfl (fun ls hl => ?_)
        refine lv_iload_n hx hb dX5_strainOf_81 rfl (lv_at hl 4 rfl) ?_
        refine lv_iload_n hx hb dX5_strainOf_82 rfl (lv_at hl 1 rfl) ?_
        refine lv_iload hx hb dX5_strainOf_83 (lv_at hl 0 rfl) ?_
        refine lv_icmp_ge (tgt := 92) hx hb dX5_strainOf_85 (by decide) (fun c2 => ?_) (fun c2 => ?_)
        · skip
          refine lv_iload hx hb dX5_strainOf_92 (lv_at hl 0 rfl) ?_
          refine lv_isub hx hb dX5_strainOf_94 ?_
          exact g_iret F hr hlk hH (by simp only [mstr, c2, if_true, if_false, ↓reduceIte]) (by first | rfl | (simp only [mmx, mstr, c1, c2, if_true, if_false, ↓reduceIte]; done) | (simp only [mmx, mstr, c1, c2, if_true, if_false, ↓reduceIte]; rfl)) dX5_strainOf_95
        · skip
          refine lv_iload_n hx hb dX5_strainOf_88 rfl (lv_at hl 1 rfl) ?_
          refine lv_goto (tgt := 94) hx hb dX5_strainOf_89 (by decide) ?_
          refine lv_isub hx hb dX5_strainOf_94 ?_
          exact g_iret F hr hlk hH (by simp only [mstr, c2, if_true, if_false, ↓reduceIte]) (by first | rfl | (simp only [mmx, mstr, c1, c2, if_true, if_false, ↓reduceIte]; done) | (simp only [mmx, mstr, c1, c2, if_true, if_false, ↓reduceIte]; rfl)) dX5_strainOf_95
      · skip
        exact absurd (nI_le (Nat.le_refl _) (by omega)) c1
    | succ n ih =>
      intro t ht H locs ls hH hl
      have htN : t < eLn E b := by omega
      refine lv_iload_n hx hb dX5_strainOf_4 rfl (lv_at hl 3 rfl) ?_
      refine lv_aload_n hx hb dX5_strainOf_5 rfl (lv_at hl 0 rfl) ?_
      refine g_get (x := .ref (eAd E 16)) F hH inX5 (hE.2.1 15 (by decide) (by decide)) (cq_mo E _) rfl 1 (by decide) (hts (.fieldLink RX5 7 "DryingKilnModel" "layersOf" "[I") (by decide +kernel)) (fun _ h => h) rfl dX5_strainOf_6 ?_
      refine lv_iload_n hx hb dX5_strainOf_9 rfl (lv_at hl 1 rfl) ?_
      refine g_iald (n := 6) (x := nI (eLn E b)) F hH (hE.2.1 16 (by decide) (by decide)) rfl b rfl (by omega) (by omega) (lrow_at (by omega)) dX5_strainOf_10 ?_
      refine lv_icmp_ge (tgt := 51) hx hb dX5_strainOf_11 (by decide) (fun c3 => ?_) (fun c3 => ?_)
      · skip
        exact absurd c3 (nI_ge htN (by omega))
      · skip
        refine lv_aload_n hx hb dX5_strainOf_14 rfl (lv_at hl 0 rfl) ?_
        refine g_get (x := .ref (eAd E 17)) F hH inX5 (hE.2.1 15 (by decide) (by decide)) (cq_mo E _) rfl 2 (by decide) (hts (.fieldLink RX5 13 "DryingKilnModel" "cells" "[I") (by decide +kernel)) (fun _ h => h) rfl dX5_strainOf_15 ?_
        refine lv_bipush (v := 9) hx hb dX5_strainOf_18 (by decide) ?_
        refine lv_iload_n hx hb dX5_strainOf_20 rfl (lv_at hl 1 rfl) ?_
        refine lv_imul hx hb dX5_strainOf_21 ?_
        rw [nI_9 b]
        refine lv_iload_n hx hb dX5_strainOf_22 rfl (lv_at hl 3 rfl) ?_
        refine lv_iadd hx hb dX5_strainOf_23 ?_
        rw [nI_add (9 * b) t]
        refine g_iald (n := 54) (x := mrow v b t) F hH (hE.2.1 17 (by decide) (by decide)) rfl (9 * b + t) rfl (by omega) (by omega) rfl dX5_strainOf_24 ?_
        refine lv_iload_n hx hb dX5_strainOf_25 rfl (lv_at hl 2 rfl) ?_
        refine lv_icmp_le (tgt := 43) hx hb dX5_strainOf_26 (by decide) (fun c4 => ?_) (fun c4 => ?_)
        · skip
          refine lv_iload_n hx hb dX5_strainOf_43 rfl (lv_at hl 2 rfl) ?_
          refine lv_istore_n (lv' := [(2, .int (mmx (mrow v b) t)), (0, .ref (eAd E 15)), (1, .int (nI b)), (3, .int (nI t))]) hx hb dX5_strainOf_44 rfl hl (by decide) rfl (fun ls hl => ?_)
          refine lv_iinc (v := nI (t + 1)) (lv' := [(3, .int (nI (t + 1))), (2, .int (mmx (mrow v b) t)), (0, .ref (eAd E 15)), (1, .int (nI b))]) hx hb dX5_strainOf_45 hl (k := 3) rfl (nI_1 _) (by decide) rfl (fun ls hl => ?_)
          refine lv_goto (tgt := 4) hx hb dX5_strainOf_48 (by decide) ?_
          exact ih (t + 1) (by omega) _ _ ls (by first | exact hH | (simp only [mmx, mstr, c3, c4, if_true, if_false, ↓reduceIte]; exact hH)) (by first | exact lv_sub hl [2, 3, 1, 0] rfl | (have h := lv_sub hl [2, 3, 1, 0] rfl; simp only [mmx, mstr, c3, c4, if_true, if_false, ↓reduceIte]; exact h))
        · skip
          refine lv_aload_n hx hb dX5_strainOf_29 rfl (lv_at hl 0 rfl) ?_
          refine g_get (x := .ref (eAd E 17)) F hH inX5 (hE.2.1 15 (by decide) (by decide)) (cq_mo E _) rfl 2 (by decide) (hts (.fieldLink RX5 13 "DryingKilnModel" "cells" "[I") (by decide +kernel)) (fun _ h => h) rfl dX5_strainOf_30 ?_
          refine lv_bipush (v := 9) hx hb dX5_strainOf_33 (by decide) ?_
          refine lv_iload_n hx hb dX5_strainOf_35 rfl (lv_at hl 1 rfl) ?_
          refine lv_imul hx hb dX5_strainOf_36 ?_
          rw [nI_9 b]
          refine lv_iload_n hx hb dX5_strainOf_37 rfl (lv_at hl 3 rfl) ?_
          refine lv_iadd hx hb dX5_strainOf_38 ?_
          rw [nI_add (9 * b) t]
          refine g_iald (n := 54) (x := mrow v b t) F hH (hE.2.1 17 (by decide) (by decide)) rfl (9 * b + t) rfl (by omega) (by omega) rfl dX5_strainOf_39 ?_
          refine lv_goto (tgt := 44) hx hb dX5_strainOf_40 (by decide) ?_
          refine lv_istore_n (lv' := [(2, .int (mrow v b t)), (0, .ref (eAd E 15)), (1, .int (nI b)), (3, .int (nI t))]) hx hb dX5_strainOf_44 rfl hl (by decide) rfl (fun ls hl => ?_)
          refine lv_iinc (v := nI (t + 1)) (lv' := [(3, .int (nI (t + 1))), (2, .int (mrow v b t)), (0, .ref (eAd E 15)), (1, .int (nI b))]) hx hb dX5_strainOf_45 hl (k := 3) rfl (nI_1 _) (by decide) rfl (fun ls hl => ?_)
          refine lv_goto (tgt := 4) hx hb dX5_strainOf_48 (by decide) ?_
          exact ih (t + 1) (by omega) _ _ ls (by first | exact hH | (simp only [mmx, mstr, c3, c4, if_true, if_false, ↓reduceIte]; exact hH)) (by first | exact lv_sub hl [2, 3, 1, 0] rfl | (have h := lv_sub hl [2, 3, 1, 0] rfl; simp only [mmx, mstr, c3, c4, if_true, if_false, ↓reduceIte]; exact h))
  exact loop4 (eLn E b) 0 (Nat.zero_add _) _ _ ls hH (lv_sub hl [2, 3, 1, 0] rfl)

set_option maxHeartbeats 4000000 in
set_option maxRecDepth 100000 in
theorem c_X5_averageMoisture (l : Launch) (E : Ev) (hE : EO E) (v : Mem) (a : Int32) : Ci l yX5_averageMoisture wsX5_averageMoisture ({ frames := 2, cells := 0, slots := 0, locals := 44 } : Room) E [.ref (eAd E 15), .int a] v (mav E v a) v := by
  refine Ci.of (cc := cX5_averageMoisture) (maxL := 2) (ret := (some .int)) (own := RX5) (by decide) rfl rfl (Nat.le_of_ble_eq_true rfl) ?_
  intro p e s m below meth c F hr hlk ls hl hH
  obtain ⟨hx, hb, hml, hown, hts⟩ := id F.1
  have hl : lv_has ls 2 [(0, .ref (eAd E 15)), (1, .int a)] := hl
  have inX5 : ∀ w ∈ wsX50, w ∈ wsX5_averageMoisture := fun w h => List.mem_cons_of_mem _ (List.mem_append_right _ h)
  have hnb := hE.2.2.2.2.1 3 (by decide)
  have hm4 := hE.2.2.2.2.2.2
  refine lv_aload_n hx hb dX5_averageMoisture_0 rfl (lv_at hl 0 rfl) ?_
  refine lv_iload_n hx hb dX5_averageMoisture_1 rfl (lv_at hl 1 rfl) ?_
  refine g_vi (As := [.int a]) F hH (c_X5_isBoard l E hE v a) (cwV 1 hts gX5_averageMoisture_X5_isBoard rfl rfl rfl (by decide +kernel) ⟨Nat.le_of_ble_eq_true rfl, Nat.le_of_ble_eq_true rfl⟩) (hE.2.1 15 (by decide) (by decide)) (cq_mo E _) rfl rfl hl.1 [] rfl (Nat.le_of_ble_eq_true rfl) dX5_averageMoisture_2 ⟨Nat.zero_le _, Nat.zero_le _⟩ (fun H locs hH => ?_)
  refine lv_if_eq (tgt := 16) hx hb dX5_averageMoisture_5 (by decide) (fun c1 => ?_) (fun c1 => ?_)
  · skip
    refine lv_ldc (v := -1000001) hx hb hown (hts (.constant RX5 73 (-1000001)) (by decide +kernel)) dX5_averageMoisture_16 ?_
    exact g_iret F hr hlk hH (by first | rfl | (simp only [mav, c1, if_true, if_false, ↓reduceIte]; done) | (simp only [mav, c1, if_true, if_false, ↓reduceIte]; rfl)) (by first | rfl | (simp only [mav, c1, if_true, if_false, ↓reduceIte]; done) | (simp only [mav, c1, if_true, if_false, ↓reduceIte]; rfl)) dX5_averageMoisture_18
  · skip
    obtain ⟨j, hj, rfl⟩ := btw_ix (by omega) c1
    have hcl : (nI j).toNatClampNeg = j := nI_clamp (by omega)
    have hln := hE.2.2.2.2.2.1 j (by omega)
    refine lv_aload_n hx hb dX5_averageMoisture_8 rfl (lv_at hl 0 rfl) ?_
    refine lv_iload_n hx hb dX5_averageMoisture_9 rfl (lv_at hl 1 rfl) ?_
    refine g_vi (As := [.int (nI j)]) F hH (c_X5_averageOf l E hE v j hj) (cwV 1 hts gX5_averageMoisture_X5_averageOf rfl rfl rfl (by decide +kernel) ⟨Nat.le_of_ble_eq_true rfl, Nat.le_of_ble_eq_true rfl⟩) (hE.2.1 15 (by decide) (by decide)) (cq_mo E _) rfl rfl hl.1 [] rfl (Nat.le_of_ble_eq_true rfl) dX5_averageMoisture_10 ⟨Nat.zero_le _, Nat.zero_le _⟩ (fun H locs hH => ?_)
    refine lv_goto (tgt := 18) hx hb dX5_averageMoisture_13 (by decide) ?_
    exact g_iret F hr hlk hH (by first | rfl | (simp only [mav, c1, hcl, if_true, if_false, ↓reduceIte]; done) | (simp only [mav, c1, hcl, if_true, if_false, ↓reduceIte]; rfl)) (by first | rfl | (simp only [mav, c1, hcl, if_true, if_false, ↓reduceIte]; done) | (simp only [mav, c1, hcl, if_true, if_false, ↓reduceIte]; rfl)) dX5_averageMoisture_18

set_option maxHeartbeats 4000000 in
set_option maxRecDepth 100000 in
theorem c_X5_strain (l : Launch) (E : Ev) (hE : EO E) (v : Mem) (a : Int32) : Ci l yX5_strain wsX5_strain ({ frames := 2, cells := 0, slots := 0, locals := 43 } : Room) E [.ref (eAd E 15), .int a] v (mst E v a) v := by
  refine Ci.of (cc := cX5_strain) (maxL := 2) (ret := (some .int)) (own := RX5) (by decide) rfl rfl (Nat.le_of_ble_eq_true rfl) ?_
  intro p e s m below meth c F hr hlk ls hl hH
  obtain ⟨hx, hb, hml, hown, hts⟩ := id F.1
  have hl : lv_has ls 2 [(0, .ref (eAd E 15)), (1, .int a)] := hl
  have inX5 : ∀ w ∈ wsX50, w ∈ wsX5_strain := fun w h => List.mem_cons_of_mem _ (List.mem_append_right _ h)
  have hnb := hE.2.2.2.2.1 3 (by decide)
  have hm4 := hE.2.2.2.2.2.2
  refine lv_aload_n hx hb dX5_strain_0 rfl (lv_at hl 0 rfl) ?_
  refine lv_iload_n hx hb dX5_strain_1 rfl (lv_at hl 1 rfl) ?_
  refine g_vi (As := [.int a]) F hH (c_X5_isBoard l E hE v a) (cwV 1 hts gX5_strain_X5_isBoard rfl rfl rfl (by decide +kernel) ⟨Nat.le_of_ble_eq_true rfl, Nat.le_of_ble_eq_true rfl⟩) (hE.2.1 15 (by decide) (by decide)) (cq_mo E _) rfl rfl hl.1 [] rfl (Nat.le_of_ble_eq_true rfl) dX5_strain_2 ⟨Nat.zero_le _, Nat.zero_le _⟩ (fun H locs hH => ?_)
  refine lv_if_eq (tgt := 16) hx hb dX5_strain_5 (by decide) (fun c1 => ?_) (fun c1 => ?_)
  · skip
    refine lv_ldc (v := -1000001) hx hb hown (hts (.constant RX5 73 (-1000001)) (by decide +kernel)) dX5_strain_16 ?_
    exact g_iret F hr hlk hH (by first | rfl | (simp only [mst, c1, if_true, if_false, ↓reduceIte]; done) | (simp only [mst, c1, if_true, if_false, ↓reduceIte]; rfl)) (by first | rfl | (simp only [mst, c1, if_true, if_false, ↓reduceIte]; done) | (simp only [mst, c1, if_true, if_false, ↓reduceIte]; rfl)) dX5_strain_18
  · skip
    obtain ⟨j, hj, rfl⟩ := btw_ix (by omega) c1
    have hcl : (nI j).toNatClampNeg = j := nI_clamp (by omega)
    have hln := hE.2.2.2.2.2.1 j (by omega)
    refine lv_aload_n hx hb dX5_strain_8 rfl (lv_at hl 0 rfl) ?_
    refine lv_iload_n hx hb dX5_strain_9 rfl (lv_at hl 1 rfl) ?_
    refine g_vi (As := [.int (nI j)]) F hH (c_X5_strainOf l E hE v j hj) (cwV 1 hts gX5_strain_X5_strainOf rfl rfl rfl (by decide +kernel) ⟨Nat.le_of_ble_eq_true rfl, Nat.le_of_ble_eq_true rfl⟩) (hE.2.1 15 (by decide) (by decide)) (cq_mo E _) rfl rfl hl.1 [] rfl (Nat.le_of_ble_eq_true rfl) dX5_strain_10 ⟨Nat.zero_le _, Nat.zero_le _⟩ (fun H locs hH => ?_)
    refine lv_goto (tgt := 18) hx hb dX5_strain_13 (by decide) ?_
    exact g_iret F hr hlk hH (by first | rfl | (simp only [mst, c1, hcl, if_true, if_false, ↓reduceIte]; done) | (simp only [mst, c1, hcl, if_true, if_false, ↓reduceIte]; rfl)) (by first | rfl | (simp only [mst, c1, hcl, if_true, if_false, ↓reduceIte]; done) | (simp only [mst, c1, hcl, if_true, if_false, ↓reduceIte]; rfl)) dX5_strain_18

set_option maxHeartbeats 4000000 in
set_option maxRecDepth 100000 in
theorem c_X5_checkHour (l : Launch) (E : Ev) (hE : EO E) (v : Mem) (a : Int32) : Ci l yX5_checkHour wsX5_checkHour ({ frames := 2, cells := 0, slots := 0, locals := 43 } : Room) E [.ref (eAd E 15), .int a] v (mfld E v 18 a) v := by
  refine Ci.of (cc := cX5_checkHour) (maxL := 2) (ret := (some .int)) (own := RX5) (by decide) rfl rfl (Nat.le_of_ble_eq_true rfl) ?_
  intro p e s m below meth c F hr hlk ls hl hH
  obtain ⟨hx, hb, hml, hown, hts⟩ := id F.1
  have hl : lv_has ls 2 [(0, .ref (eAd E 15)), (1, .int a)] := hl
  have inX5 : ∀ w ∈ wsX50, w ∈ wsX5_checkHour := fun w h => List.mem_cons_of_mem _ (List.mem_append_right _ h)
  have hnb := hE.2.2.2.2.1 3 (by decide)
  have hm4 := hE.2.2.2.2.2.2
  refine lv_aload_n hx hb dX5_checkHour_0 rfl (lv_at hl 0 rfl) ?_
  refine lv_iload_n hx hb dX5_checkHour_1 rfl (lv_at hl 1 rfl) ?_
  refine g_vi (As := [.int a]) F hH (c_X5_isBoard l E hE v a) (cwV 1 hts gX5_checkHour_X5_isBoard rfl rfl rfl (by decide +kernel) ⟨Nat.le_of_ble_eq_true rfl, Nat.le_of_ble_eq_true rfl⟩) (hE.2.1 15 (by decide) (by decide)) (cq_mo E _) rfl rfl hl.1 [] rfl (Nat.le_of_ble_eq_true rfl) dX5_checkHour_2 ⟨Nat.zero_le _, Nat.zero_le _⟩ (fun H locs hH => ?_)
  refine lv_if_eq (tgt := 17) hx hb dX5_checkHour_5 (by decide) (fun c1 => ?_) (fun c1 => ?_)
  · skip
    refine lv_ldc (v := -1000001) hx hb hown (hts (.constant RX5 73 (-1000001)) (by decide +kernel)) dX5_checkHour_17 ?_
    exact g_iret F hr hlk hH (by first | rfl | (simp only [mfld, c1, if_true, if_false, ↓reduceIte]; done) | (simp only [mfld, c1, if_true, if_false, ↓reduceIte]; rfl)) (by first | rfl | (simp only [mfld, c1, if_true, if_false, ↓reduceIte]; done) | (simp only [mfld, c1, if_true, if_false, ↓reduceIte]; rfl)) dX5_checkHour_19
  · skip
    obtain ⟨j, hj, rfl⟩ := btw_ix (by omega) c1
    have hcl : (nI j).toNatClampNeg = j := nI_clamp (by omega)
    have hln := hE.2.2.2.2.2.1 j (by omega)
    refine lv_aload_n hx hb dX5_checkHour_8 rfl (lv_at hl 0 rfl) ?_
    refine g_get (x := .ref (eAd E 18)) F hH inX5 (hE.2.1 15 (by decide) (by decide)) (cq_mo E _) rfl 3 (by decide) (hts (.fieldLink RX5 16 "DryingKilnModel" "checkOf" "[I") (by decide +kernel)) (fun _ h => h) rfl dX5_checkHour_9 ?_
    refine lv_iload_n hx hb dX5_checkHour_12 rfl (lv_at hl 1 rfl) ?_
    refine g_iald (n := 6) (x := v 18 j) F hH (hE.2.1 18 (by decide) (by decide)) rfl j rfl (by omega) (by omega) rfl dX5_checkHour_13 ?_
    refine lv_goto (tgt := 19) hx hb dX5_checkHour_14 (by decide) ?_
    exact g_iret F hr hlk hH (by first | rfl | (simp only [mfld, c1, hcl, if_true, if_false, ↓reduceIte]; done) | (simp only [mfld, c1, hcl, if_true, if_false, ↓reduceIte]; rfl)) (by first | rfl | (simp only [mfld, c1, hcl, if_true, if_false, ↓reduceIte]; done) | (simp only [mfld, c1, hcl, if_true, if_false, ↓reduceIte]; rfl)) dX5_checkHour_19

set_option maxHeartbeats 4000000 in
set_option maxRecDepth 100000 in
theorem c_X5_airMoisture (l : Launch) (E : Ev) (hE : EO E) (v : Mem) (a : Int32) : Ci l yX5_airMoisture wsX5_airMoisture ({ frames := 2, cells := 0, slots := 0, locals := 43 } : Room) E [.ref (eAd E 15), .int a] v (mfld E v 19 a) v := by
  refine Ci.of (cc := cX5_airMoisture) (maxL := 2) (ret := (some .int)) (own := RX5) (by decide) rfl rfl (Nat.le_of_ble_eq_true rfl) ?_
  intro p e s m below meth c F hr hlk ls hl hH
  obtain ⟨hx, hb, hml, hown, hts⟩ := id F.1
  have hl : lv_has ls 2 [(0, .ref (eAd E 15)), (1, .int a)] := hl
  have inX5 : ∀ w ∈ wsX50, w ∈ wsX5_airMoisture := fun w h => List.mem_cons_of_mem _ (List.mem_append_right _ h)
  have hnb := hE.2.2.2.2.1 3 (by decide)
  have hm4 := hE.2.2.2.2.2.2
  refine lv_aload_n hx hb dX5_airMoisture_0 rfl (lv_at hl 0 rfl) ?_
  refine lv_iload_n hx hb dX5_airMoisture_1 rfl (lv_at hl 1 rfl) ?_
  refine g_vi (As := [.int a]) F hH (c_X5_isBoard l E hE v a) (cwV 1 hts gX5_airMoisture_X5_isBoard rfl rfl rfl (by decide +kernel) ⟨Nat.le_of_ble_eq_true rfl, Nat.le_of_ble_eq_true rfl⟩) (hE.2.1 15 (by decide) (by decide)) (cq_mo E _) rfl rfl hl.1 [] rfl (Nat.le_of_ble_eq_true rfl) dX5_airMoisture_2 ⟨Nat.zero_le _, Nat.zero_le _⟩ (fun H locs hH => ?_)
  refine lv_if_eq (tgt := 17) hx hb dX5_airMoisture_5 (by decide) (fun c1 => ?_) (fun c1 => ?_)
  · skip
    refine lv_ldc (v := -1000001) hx hb hown (hts (.constant RX5 73 (-1000001)) (by decide +kernel)) dX5_airMoisture_17 ?_
    exact g_iret F hr hlk hH (by first | rfl | (simp only [mfld, c1, if_true, if_false, ↓reduceIte]; done) | (simp only [mfld, c1, if_true, if_false, ↓reduceIte]; rfl)) (by first | rfl | (simp only [mfld, c1, if_true, if_false, ↓reduceIte]; done) | (simp only [mfld, c1, if_true, if_false, ↓reduceIte]; rfl)) dX5_airMoisture_19
  · skip
    obtain ⟨j, hj, rfl⟩ := btw_ix (by omega) c1
    have hcl : (nI j).toNatClampNeg = j := nI_clamp (by omega)
    have hln := hE.2.2.2.2.2.1 j (by omega)
    refine lv_aload_n hx hb dX5_airMoisture_8 rfl (lv_at hl 0 rfl) ?_
    refine g_get (x := .ref (eAd E 19)) F hH inX5 (hE.2.1 15 (by decide) (by decide)) (cq_mo E _) rfl 4 (by decide) (hts (.fieldLink RX5 19 "DryingKilnModel" "airOf" "[I") (by decide +kernel)) (fun _ h => h) rfl dX5_airMoisture_9 ?_
    refine lv_iload_n hx hb dX5_airMoisture_12 rfl (lv_at hl 1 rfl) ?_
    refine g_iald (n := 6) (x := v 19 j) F hH (hE.2.1 19 (by decide) (by decide)) rfl j rfl (by omega) (by omega) rfl dX5_airMoisture_13 ?_
    refine lv_goto (tgt := 19) hx hb dX5_airMoisture_14 (by decide) ?_
    exact g_iret F hr hlk hH (by first | rfl | (simp only [mfld, c1, hcl, if_true, if_false, ↓reduceIte]; done) | (simp only [mfld, c1, hcl, if_true, if_false, ↓reduceIte]; rfl)) (by first | rfl | (simp only [mfld, c1, hcl, if_true, if_false, ↓reduceIte]; done) | (simp only [mfld, c1, hcl, if_true, if_false, ↓reduceIte]; rfl)) dX5_airMoisture_19

set_option maxHeartbeats 4000000 in
set_option maxRecDepth 100000 in
theorem c_X5_wettest (l : Launch) (E : Ev) (hE : EO E) (v : Mem) : Ci l yX5_wettest wsX5_wettest ({ frames := 2, cells := 0, slots := 0, locals := 44 } : Room) E [.ref (eAd E 15)] v (mwb E v (eNb E 3)) v := by
  refine Ci.of (cc := cX5_wettest) (maxL := 3) (ret := (some .int)) (own := RX5) (by decide) rfl rfl (Nat.le_of_ble_eq_true rfl) ?_
  intro p e s m below meth c F hr hlk ls hl hH
  obtain ⟨hx, hb, hml, hown, hts⟩ := id F.1
  have hl : lv_has ls 3 [(0, .ref (eAd E 15))] := hl
  have inX5 : ∀ w ∈ wsX50, w ∈ wsX5_wettest := fun w h => List.mem_cons_of_mem _ (List.mem_append_right _ h)
  have hnb := hE.2.2.2.2.1 3 (by decide)
  have hm4 := hE.2.2.2.2.2.2
  refine lv_ldc (v := -1000005) hx hb hown (hts (.constant RX5 68 (-1000005)) (by decide +kernel)) dX5_wettest_0 ?_
  refine lv_istore_n (lv' := [(1, .int (-1000005)), (0, .ref (eAd E 15))]) hx hb dX5_wettest_2 rfl hl (by decide) rfl (fun ls hl => ?_)
  refine lv_iconst (v := 0) hx hb dX5_wettest_3 (by decide) ?_
  refine lv_istore_n (lv' := [(2, .int 0), (1, .int (-1000005)), (0, .ref (eAd E 15))]) hx hb dX5_wettest_4 rfl hl (by decide) rfl (fun ls hl => ?_)
  have loop5 : ∀ (n t : Nat), t + n = eNb E 3 → ∀ (H : Heap) (locs : List Loc) (ls : Array Slot), HS E s.heap v H locs → lv_has ls 3 [(0, .ref (eAd E 15)), (1, .int (mwb E v t)), (2, .int (nI t))] → W p l e ({ frames := 2, cells := 0, slots := 0, locals := 44 } : Room) s m ([.ref (eAd E 15)] : List Value).toArray below meth c H locs 0 0 (Zi below E ([.ref (eAd E 15)] : List Value).toArray s (mwb E v (eNb E 3)) v) (F0 m 5 ls []) := by
    intro n
    induction n with
    | zero =>
      intro t ht H locs ls hH hl
      obtain rfl : eNb E 3 = t := by omega
      refine lv_iload_n hx hb dX5_wettest_5 rfl (lv_at hl 2 rfl) ?_
      refine lv_aload_n hx hb dX5_wettest_6 rfl (lv_at hl 0 rfl) ?_
      refine g_get (x := .int (nI (eNb E 3))) F hH inX5 (hE.2.1 15 (by decide) (by decide)) (cq_mo E _) rfl 0 (by decide) (hts (.fieldLink RX5 59 "DryingKilnModel" "boards" "I") (by decide +kernel)) (fun _ h => h) rfl dX5_wettest_7 ?_
      refine lv_icmp_ge (tgt := 44) hx hb dX5_wettest_10 (by decide) (fun c1 => ?_) (fun c1 => ?_)
      · skip
        refine lv_iload_n hx hb dX5_wettest_44 rfl (lv_at hl 1 rfl) ?_
        exact g_iret F hr hlk hH rfl rfl dX5_wettest_45
      · skip
        exact absurd (nI_le (Nat.le_refl _) (by omega)) c1
    | succ n ih =>
      intro t ht H locs ls hH hl
      have htN : t < eNb E 3 := by omega
      refine lv_iload_n hx hb dX5_wettest_5 rfl (lv_at hl 2 rfl) ?_
      refine lv_aload_n hx hb dX5_wettest_6 rfl (lv_at hl 0 rfl) ?_
      refine g_get (x := .int (nI (eNb E 3))) F hH inX5 (hE.2.1 15 (by decide) (by decide)) (cq_mo E _) rfl 0 (by decide) (hts (.fieldLink RX5 59 "DryingKilnModel" "boards" "I") (by decide +kernel)) (fun _ h => h) rfl dX5_wettest_7 ?_
      refine lv_icmp_ge (tgt := 44) hx hb dX5_wettest_10 (by decide) (fun c2 => ?_) (fun c2 => ?_)
      · skip
        exact absurd c2 (nI_ge htN (by omega))
      · skip
        refine lv_iload_n hx hb dX5_wettest_13 rfl (lv_at hl 1 rfl) ?_
        refine lv_ldc (v := -1000005) hx hb hown (hts (.constant RX5 68 (-1000005)) (by decide +kernel)) dX5_wettest_14 ?_
        refine lv_icmp_eq (tgt := 32) hx hb dX5_wettest_16 (by decide) (fun c3 => ?_) (fun c3 => ?_)
        · skip
          have h0 := mwb_0 (by omega) c3
          refine lv_iload_n hx hb dX5_wettest_32 rfl (lv_at hl 2 rfl) ?_
          refine lv_goto (tgt := 37) hx hb dX5_wettest_33 (by decide) ?_
          refine lv_istore_n (lv' := [(1, .int (nI t)), (0, .ref (eAd E 15)), (2, .int (nI t))]) hx hb dX5_wettest_37 rfl hl (by decide) rfl (fun ls hl => ?_)
          refine lv_iinc (v := nI (t + 1)) (lv' := [(2, .int (nI (t + 1))), (1, .int (nI t)), (0, .ref (eAd E 15))]) hx hb dX5_wettest_38 hl (k := 2) rfl (nI_1 _) (by decide) rfl (fun ls hl => ?_)
          refine lv_goto (tgt := 5) hx hb dX5_wettest_41 (by decide) ?_
          exact ih (t + 1) (by omega) _ _ ls (by first | exact hH | (simp only [c2, c3, if_true, if_false, ↓reduceIte]; exact hH)) (by have h := lv_sub hl [2, 1, 0] rfl; first | (rw [mw_a E v h0]; exact h) | (rw [mw_b E v h0 c3]; exact h) | (rw [mw_c E v h0 c3]; exact h))
        · skip
          have h0 := mwb_n c3
          rw [show mwb E v t = nI (mwi E v t) from if_neg h0] at hl
          have hmw := mwi_lt E v t (by omega)
          refine lv_aload_n hx hb dX5_wettest_19 rfl (lv_at hl 0 rfl) ?_
          refine lv_iload_n hx hb dX5_wettest_20 rfl (lv_at hl 2 rfl) ?_
          refine g_vi (As := [.int (nI t)]) F hH (c_X5_averageOf l E hE v t (by first | assumption | omega | decide)) (cwV 1 hts gX5_wettest_X5_averageOf rfl rfl rfl (by decide +kernel) ⟨Nat.le_of_ble_eq_true rfl, Nat.le_of_ble_eq_true rfl⟩) (hE.2.1 15 (by decide) (by decide)) (cq_mo E _) rfl rfl hl.1 [] rfl (Nat.le_of_ble_eq_true rfl) dX5_wettest_21 ⟨Nat.zero_le _, Nat.zero_le _⟩ (fun H locs hH => ?_)
          refine lv_aload_n hx hb dX5_wettest_24 rfl (lv_at hl 0 rfl) ?_
          refine lv_iload_n hx hb dX5_wettest_25 rfl (lv_at hl 1 rfl) ?_
          refine g_vi (As := [.int (nI (mwi E v t))]) F hH (c_X5_averageOf l E hE v (mwi E v t) (by first | assumption | omega | decide)) (cwV 1 hts gX5_wettest_X5_averageOf rfl rfl rfl (by decide +kernel) ⟨Nat.le_of_ble_eq_true rfl, Nat.le_of_ble_eq_true rfl⟩) (hE.2.1 15 (by decide) (by decide)) (cq_mo E _) rfl rfl hl.1 [.int (mavg E v t)] rfl (Nat.le_of_ble_eq_true rfl) dX5_wettest_26 ⟨Nat.zero_le _, Nat.zero_le _⟩ (fun H locs hH => ?_)
          refine lv_icmp_le (tgt := 36) hx hb dX5_wettest_29 (by decide) (fun c4 => ?_) (fun c4 => ?_)
          · skip
            refine lv_iload_n hx hb dX5_wettest_36 rfl (lv_at hl 1 rfl) ?_
            refine lv_istore_n (lv' := [(1, .int (nI (mwi E v t))), (0, .ref (eAd E 15)), (2, .int (nI t))]) hx hb dX5_wettest_37 rfl hl (by decide) rfl (fun ls hl => ?_)
            refine lv_iinc (v := nI (t + 1)) (lv' := [(2, .int (nI (t + 1))), (1, .int (nI (mwi E v t))), (0, .ref (eAd E 15))]) hx hb dX5_wettest_38 hl (k := 2) rfl (nI_1 _) (by decide) rfl (fun ls hl => ?_)
            refine lv_goto (tgt := 5) hx hb dX5_wettest_41 (by decide) ?_
            exact ih (t + 1) (by omega) _ _ ls (by first | exact hH | (simp only [c2, c3, c4, if_true, if_false, ↓reduceIte]; exact hH)) (by have h := lv_sub hl [2, 1, 0] rfl; first | (rw [mw_a E v h0]; exact h) | (rw [mw_b E v h0 c4]; exact h) | (rw [mw_c E v h0 c4]; exact h))
          · skip
            refine lv_iload_n hx hb dX5_wettest_32 rfl (lv_at hl 2 rfl) ?_
            refine lv_goto (tgt := 37) hx hb dX5_wettest_33 (by decide) ?_
            refine lv_istore_n (lv' := [(1, .int (nI t)), (0, .ref (eAd E 15)), (2, .int (nI t))]) hx hb dX5_wettest_37 rfl hl (by decide) rfl (fun ls hl => ?_)
            refine lv_iinc (v := nI (t + 1)) (lv' := [(2, .int (nI (t + 1))), (1, .int (nI t)), (0, .ref (eAd E 15))]) hx hb dX5_wettest_38 hl (k := 2) rfl (nI_1 _) (by decide) rfl (fun ls hl => ?_)
            refine lv_goto (tgt := 5) hx hb dX5_wettest_41 (by decide) ?_
            exact ih (t + 1) (by omega) _ _ ls (by first | exact hH | (simp only [c2, c3, c4, if_true, if_false, ↓reduceIte]; exact hH)) (by have h := lv_sub hl [2, 1, 0] rfl; first | (rw [mw_a E v h0]; exact h) | (rw [mw_b E v h0 c4]; exact h) | (rw [mw_c E v h0 c4]; exact h))
  exact loop5 (eNb E 3) 0 (Nat.zero_add _) _ _ ls hH (lv_sub hl [2, 1, 0] rfl)

set_option maxHeartbeats 4000000 in
set_option maxRecDepth 100000 in
theorem c_X5_wettestBoard (l : Launch) (E : Ev) (hE : EO E) (v : Mem) : Ci l yX5_wettestBoard wsX5_wettestBoard ({ frames := 3, cells := 0, slots := 0, locals := 66 } : Room) E [.ref (eAd E 15)] v (mwb E v (eNb E 3)) v := by
  refine Ci.of (cc := cX5_wettestBoard) (maxL := 1) (ret := (some .int)) (own := RX5) (by decide) rfl rfl (Nat.le_of_ble_eq_true rfl) ?_
  intro p e s m below meth c F hr hlk ls hl hH
  obtain ⟨hx, hb, hml, hown, hts⟩ := id F.1
  have hl : lv_has ls 1 [(0, .ref (eAd E 15))] := hl
  have inX5 : ∀ w ∈ wsX50, w ∈ wsX5_wettestBoard := fun w h => List.mem_cons_of_mem _ (List.mem_append_right _ h)
  refine lv_aload_n hx hb dX5_wettestBoard_0 rfl (lv_at hl 0 rfl) ?_
  refine g_vi (As := []) F hH (c_X5_wettest l E hE v) (cwV 0 hts gX5_wettestBoard_X5_wettest rfl rfl rfl (by decide +kernel) ⟨Nat.le_of_ble_eq_true rfl, Nat.le_of_ble_eq_true rfl⟩) (hE.2.1 15 (by decide) (by decide)) (cq_mo E _) rfl rfl hl.1 [] rfl (Nat.le_of_ble_eq_true rfl) dX5_wettestBoard_1 ⟨Nat.zero_le _, Nat.zero_le _⟩ (fun H locs hH => ?_)
  exact g_iret F hr hlk hH (by first | rfl | (simp only [if_true, if_false, ↓reduceIte]; done) | (simp only [if_true, if_false, ↓reduceIte]; rfl)) (by first | rfl | (simp only [if_true, if_false, ↓reduceIte]; done) | (simp only [if_true, if_false, ↓reduceIte]; rfl)) dX5_wettestBoard_4

set_option maxHeartbeats 4000000 in
set_option maxRecDepth 100000 in
theorem c_X5_totalWater (l : Launch) (E : Ev) (hE : EO E) (v : Mem) : Ci l yX5_totalWater wsX5_totalWater ({ frames := 1, cells := 0, slots := 0, locals := 23 } : Room) E [.ref (eAd E 15)] v (mwat E v (eNb E 3)) v := by
  refine Ci.of (cc := cX5_totalWater) (maxL := 3) (ret := (some .int)) (own := RX5) (by decide) rfl rfl (Nat.le_of_ble_eq_true rfl) ?_
  intro p e s m below meth c F hr hlk ls hl hH
  obtain ⟨hx, hb, hml, hown, hts⟩ := id F.1
  have hl : lv_has ls 3 [(0, .ref (eAd E 15))] := hl
  have inX5 : ∀ w ∈ wsX50, w ∈ wsX5_totalWater := fun w h => List.mem_cons_of_mem _ (List.mem_append_right _ h)
  have hnb := hE.2.2.2.2.1 3 (by decide)
  have hm4 := hE.2.2.2.2.2.2
  refine lv_iconst (v := 0) hx hb dX5_totalWater_0 (by decide) ?_
  refine lv_istore_n (lv' := [(1, .int 0), (0, .ref (eAd E 15))]) hx hb dX5_totalWater_1 rfl hl (by decide) rfl (fun ls hl => ?_)
  refine lv_iconst (v := 0) hx hb dX5_totalWater_2 (by decide) ?_
  refine lv_istore_n (lv' := [(2, .int 0), (1, .int 0), (0, .ref (eAd E 15))]) hx hb dX5_totalWater_3 rfl hl (by decide) rfl (fun ls hl => ?_)
  have loop4 : ∀ (n t : Nat), t + n = eNb E 3 → ∀ (H : Heap) (locs : List Loc) (ls : Array Slot), HS E s.heap v H locs → lv_has ls 3 [(0, .ref (eAd E 15)), (1, .int (mwat E v t)), (2, .int (nI t))] → W p l e ({ frames := 1, cells := 0, slots := 0, locals := 23 } : Room) s m ([.ref (eAd E 15)] : List Value).toArray below meth c H locs 0 0 (Zi below E ([.ref (eAd E 15)] : List Value).toArray s (mwat E v (eNb E 3)) v) (F0 m 4 ls []) := by
    intro n
    induction n with
    | zero =>
      intro t ht H locs ls hH hl
      obtain rfl : eNb E 3 = t := by omega
      refine lv_iload_n hx hb dX5_totalWater_4 rfl (lv_at hl 2 rfl) ?_
      refine lv_aload_n hx hb dX5_totalWater_5 rfl (lv_at hl 0 rfl) ?_
      refine g_get (x := .int (nI (eNb E 3))) F hH inX5 (hE.2.1 15 (by decide) (by decide)) (cq_mo E _) rfl 0 (by decide) (hts (.fieldLink RX5 59 "DryingKilnModel" "boards" "I") (by decide +kernel)) (fun _ h => h) rfl dX5_totalWater_6 ?_
      refine lv_icmp_ge (tgt := 26) hx hb dX5_totalWater_9 (by decide) (fun c1 => ?_) (fun c1 => ?_)
      · skip
        refine lv_iload_n hx hb dX5_totalWater_26 rfl (lv_at hl 1 rfl) ?_
        exact g_iret F hr hlk hH (by first | rfl | (simp only [c1, if_true, if_false, ↓reduceIte]; done) | (simp only [c1, if_true, if_false, ↓reduceIte]; rfl)) (by first | rfl | (simp only [c1, if_true, if_false, ↓reduceIte]; done) | (simp only [c1, if_true, if_false, ↓reduceIte]; rfl)) dX5_totalWater_27
      · skip
        exact absurd (nI_le (Nat.le_refl _) (by omega)) c1
    | succ n ih =>
      intro t ht H locs ls hH hl
      have htN : t < eNb E 3 := by omega
      refine lv_iload_n hx hb dX5_totalWater_4 rfl (lv_at hl 2 rfl) ?_
      refine lv_aload_n hx hb dX5_totalWater_5 rfl (lv_at hl 0 rfl) ?_
      refine g_get (x := .int (nI (eNb E 3))) F hH inX5 (hE.2.1 15 (by decide) (by decide)) (cq_mo E _) rfl 0 (by decide) (hts (.fieldLink RX5 59 "DryingKilnModel" "boards" "I") (by decide +kernel)) (fun _ h => h) rfl dX5_totalWater_6 ?_
      refine lv_icmp_ge (tgt := 26) hx hb dX5_totalWater_9 (by decide) (fun c2 => ?_) (fun c2 => ?_)
      · skip
        exact absurd c2 (nI_ge htN (by omega))
      · skip
        refine lv_iload_n hx hb dX5_totalWater_12 rfl (lv_at hl 1 rfl) ?_
        refine lv_aload_n hx hb dX5_totalWater_13 rfl (lv_at hl 0 rfl) ?_
        refine lv_iload_n hx hb dX5_totalWater_14 rfl (lv_at hl 2 rfl) ?_
        refine g_vi (As := [.int (nI t)]) F hH (c_X5_sumOf l E hE v t (by first | assumption | omega | decide)) (cwV 1 hts gX5_totalWater_X5_sumOf rfl rfl rfl (by decide +kernel) ⟨Nat.le_of_ble_eq_true rfl, Nat.le_of_ble_eq_true rfl⟩) (hE.2.1 15 (by decide) (by decide)) (cq_mo E _) rfl rfl hl.1 [.int (mwat E v t)] rfl (Nat.le_of_ble_eq_true rfl) dX5_totalWater_15 ⟨Nat.zero_le _, Nat.zero_le _⟩ (fun H locs hH => ?_)
        refine lv_iadd hx hb dX5_totalWater_18 ?_
        refine lv_istore_n (lv' := [(1, .int ((mwat E v t) + (psum (mrow v t) (eLn E t)))), (0, .ref (eAd E 15)), (2, .int (nI t))]) hx hb dX5_totalWater_19 rfl hl (by decide) rfl (fun ls hl => ?_)
        refine lv_iinc (v := nI (t + 1)) (lv' := [(2, .int (nI (t + 1))), (1, .int ((mwat E v t) + (psum (mrow v t) (eLn E t)))), (0, .ref (eAd E 15))]) hx hb dX5_totalWater_20 hl (k := 2) rfl (nI_1 _) (by decide) rfl (fun ls hl => ?_)
        refine lv_goto (tgt := 4) hx hb dX5_totalWater_23 (by decide) ?_
        exact ih (t + 1) (by omega) _ _ ls (by first | exact hH | (simp only [c2, if_true, if_false, ↓reduceIte]; exact hH)) (by first | exact lv_sub hl [2, 1, 0] rfl | (have h := lv_sub hl [2, 1, 0] rfl; simp only [c2, if_true, if_false, ↓reduceIte]; exact h))
  exact loop4 (eNb E 3) 0 (Nat.zero_add _) _ _ ls hH (lv_sub hl [2, 1, 0] rfl)

set_option maxHeartbeats 4000000 in
set_option maxRecDepth 100000 in
theorem c_X5_meanOf (l : Launch) (E : Ev) (hE : EO E) (v : Mem) (a : Int32) (hc : ¬ mmc a (eNb E 3) = 0) : Ci l yX5_meanOf wsX5_meanOf ({ frames := 2, cells := 0, slots := 0, locals := 44 } : Room) E [.ref (eAd E 15), .int a] v (mmean E v a) v := by
  refine Ci.of (cc := cX5_meanOf) (maxL := 5) (ret := (some .int)) (own := RX5) (by decide) rfl rfl (Nat.le_of_ble_eq_true rfl) ?_
  intro p e s m below meth c F hr hlk ls hl hH
  obtain ⟨hx, hb, hml, hown, hts⟩ := id F.1
  have hl : lv_has ls 5 [(0, .ref (eAd E 15)), (1, .int a)] := hl
  have inX5 : ∀ w ∈ wsX50, w ∈ wsX5_meanOf := fun w h => List.mem_cons_of_mem _ (List.mem_append_right _ h)
  have hnb := hE.2.2.2.2.1 3 (by decide)
  have hm4 := hE.2.2.2.2.2.2
  refine lv_iconst (v := 0) hx hb dX5_meanOf_0 (by decide) ?_
  refine lv_istore_n (lv' := [(2, .int 0), (0, .ref (eAd E 15)), (1, .int a)]) hx hb dX5_meanOf_1 rfl hl (by decide) rfl (fun ls hl => ?_)
  refine lv_iconst (v := 0) hx hb dX5_meanOf_2 (by decide) ?_
  refine lv_istore_n (lv' := [(3, .int 0), (2, .int 0), (0, .ref (eAd E 15)), (1, .int a)]) hx hb dX5_meanOf_3 rfl hl (by decide) rfl (fun ls hl => ?_)
  refine lv_iconst (v := 0) hx hb dX5_meanOf_4 (by decide) ?_
  refine lv_istore (lv' := [(4, .int 0), (3, .int 0), (2, .int 0), (0, .ref (eAd E 15)), (1, .int a)]) hx hb dX5_meanOf_5 hl (by decide) rfl (fun ls hl => ?_)
  have loop7 : ∀ (n t : Nat), t + n = eNb E 3 → ∀ (H : Heap) (locs : List Loc) (ls : Array Slot), HS E s.heap v H locs → lv_has ls 5 [(0, .ref (eAd E 15)), (1, .int a), (2, .int (mms E v a t)), (3, .int (mmc a t)), (4, .int (nI t))] → W p l e ({ frames := 2, cells := 0, slots := 0, locals := 44 } : Room) s m ([.ref (eAd E 15), .int a] : List Value).toArray below meth c H locs 0 0 (Zi below E ([.ref (eAd E 15), .int a] : List Value).toArray s (mmean E v a) v) (F0 m 7 ls []) := by
    intro n
    induction n with
    | zero =>
      intro t ht H locs ls hH hl
      obtain rfl : eNb E 3 = t := by omega
      refine lv_iload hx hb dX5_meanOf_7 (lv_at hl 4 rfl) ?_
      refine lv_aload_n hx hb dX5_meanOf_9 rfl (lv_at hl 0 rfl) ?_
      refine g_get (x := .int (nI (eNb E 3))) F hH inX5 (hE.2.1 15 (by decide) (by decide)) (cq_mo E _) rfl 0 (by decide) (hts (.fieldLink RX5 59 "DryingKilnModel" "boards" "I") (by decide +kernel)) (fun _ h => h) rfl dX5_meanOf_10 ?_
      refine lv_icmp_ge (tgt := 44) hx hb dX5_meanOf_13 (by decide) (fun c1 => ?_) (fun c1 => ?_)
      · skip
        refine lv_iload_n hx hb dX5_meanOf_44 rfl (lv_at hl 2 rfl) ?_
        refine lv_iload_n hx hb dX5_meanOf_45 rfl (lv_at hl 3 rfl) ?_
        refine lv_idiv hx hb dX5_meanOf_46 hc ?_
        exact g_iret F hr hlk hH rfl rfl dX5_meanOf_47
      · skip
        exact absurd (nI_le (Nat.le_refl _) (by omega)) c1
    | succ n ih =>
      intro t ht H locs ls hH hl
      have htN : t < eNb E 3 := by omega
      refine lv_iload hx hb dX5_meanOf_7 (lv_at hl 4 rfl) ?_
      refine lv_aload_n hx hb dX5_meanOf_9 rfl (lv_at hl 0 rfl) ?_
      refine g_get (x := .int (nI (eNb E 3))) F hH inX5 (hE.2.1 15 (by decide) (by decide)) (cq_mo E _) rfl 0 (by decide) (hts (.fieldLink RX5 59 "DryingKilnModel" "boards" "I") (by decide +kernel)) (fun _ h => h) rfl dX5_meanOf_10 ?_
      refine lv_icmp_ge (tgt := 44) hx hb dX5_meanOf_13 (by decide) (fun c2 => ?_) (fun c2 => ?_)
      · skip
        exact absurd c2 (nI_ge htN (by omega))
      · skip
        refine lv_iload_n hx hb dX5_meanOf_16 rfl (lv_at hl 1 rfl) ?_
        refine lv_iload hx hb dX5_meanOf_17 (lv_at hl 4 rfl) ?_
        refine lv_ishr hx hb dX5_meanOf_19 ?_
        refine lv_iconst (v := 1) hx hb dX5_meanOf_20 (by decide) ?_
        refine lv_iand hx hb dX5_meanOf_21 ?_
        refine lv_iconst (v := 1) hx hb dX5_meanOf_22 (by decide) ?_
        refine lv_icmp_ne (tgt := 38) hx hb dX5_meanOf_23 (by decide) (fun c3 => ?_) (fun c3 => ?_)
        · skip
          refine lv_iinc (v := nI (t + 1)) (lv' := [(4, .int (nI (t + 1))), (0, .ref (eAd E 15)), (1, .int a), (2, .int (mms E v a t)), (3, .int (mmc a t))]) hx hb dX5_meanOf_38 hl (k := 4) rfl (nI_1 _) (by decide) rfl (fun ls hl => ?_)
          refine lv_goto (tgt := 7) hx hb dX5_meanOf_41 (by decide) ?_
          exact ih (t + 1) (by omega) _ _ ls (by first | exact hH | (simp only [mms, mmc, c2, c3, if_true, if_false, ↓reduceIte]; exact hH)) (by first | exact lv_sub hl [1, 2, 3, 4, 0] rfl | (have h := lv_sub hl [1, 2, 3, 4, 0] rfl; simp only [mms, mmc, c2, c3, if_true, if_false, ↓reduceIte]; exact h))
        · skip
          refine lv_iload_n hx hb dX5_meanOf_26 rfl (lv_at hl 2 rfl) ?_
          refine lv_aload_n hx hb dX5_meanOf_27 rfl (lv_at hl 0 rfl) ?_
          refine lv_iload hx hb dX5_meanOf_28 (lv_at hl 4 rfl) ?_
          refine g_vi (As := [.int (nI t)]) F hH (c_X5_averageOf l E hE v t (by first | assumption | omega | decide)) (cwV 1 hts gX5_meanOf_X5_averageOf rfl rfl rfl (by decide +kernel) ⟨Nat.le_of_ble_eq_true rfl, Nat.le_of_ble_eq_true rfl⟩) (hE.2.1 15 (by decide) (by decide)) (cq_mo E _) rfl rfl hl.1 [.int (mms E v a t)] rfl (Nat.le_of_ble_eq_true rfl) dX5_meanOf_30 ⟨Nat.zero_le _, Nat.zero_le _⟩ (fun H locs hH => ?_)
          refine lv_iadd hx hb dX5_meanOf_33 ?_
          refine lv_istore_n (lv' := [(2, .int ((mms E v a t) + (mavg E v t))), (0, .ref (eAd E 15)), (1, .int a), (3, .int (mmc a t)), (4, .int (nI t))]) hx hb dX5_meanOf_34 rfl hl (by decide) rfl (fun ls hl => ?_)
          refine lv_iinc (v := (mmc a t) + 1) (lv' := [(3, .int ((mmc a t) + 1)), (2, .int ((mms E v a t) + (mavg E v t))), (0, .ref (eAd E 15)), (1, .int a), (4, .int (nI t))]) hx hb dX5_meanOf_35 hl (k := 3) rfl rfl (by decide) rfl (fun ls hl => ?_)
          refine lv_iinc (v := nI (t + 1)) (lv' := [(4, .int (nI (t + 1))), (3, .int ((mmc a t) + 1)), (2, .int ((mms E v a t) + (mavg E v t))), (0, .ref (eAd E 15)), (1, .int a)]) hx hb dX5_meanOf_38 hl (k := 4) rfl (nI_1 _) (by decide) rfl (fun ls hl => ?_)
          refine lv_goto (tgt := 7) hx hb dX5_meanOf_41 (by decide) ?_
          exact ih (t + 1) (by omega) _ _ ls (by first | exact hH | (simp only [mms, mmc, c2, c3, if_true, if_false, ↓reduceIte]; exact hH)) (by first | exact lv_sub hl [3, 4, 2, 1, 0] rfl | (have h := lv_sub hl [3, 4, 2, 1, 0] rfl; simp only [mms, mmc, c2, c3, if_true, if_false, ↓reduceIte]; exact h))
  exact loop7 (eNb E 3) 0 (Nat.zero_add _) _ _ ls hH (lv_sub hl [3, 4, 2, 1, 0] rfl)

set_option maxHeartbeats 4000000 in
set_option maxRecDepth 100000 in
theorem c_X5_sampleError (l : Launch) (E : Ev) (hE : EO E) (v : Mem) (a : Int32) : Ci l yX5_sampleError wsX5_sampleError ({ frames := 3, cells := 0, slots := 0, locals := 68 } : Room) E [.ref (eAd E 15), .int a] v (mse E v a) v := by
  refine Ci.of (cc := cX5_sampleError) (maxL := 3) (ret := (some .int)) (own := RX5) (by decide) rfl rfl (Nat.le_of_ble_eq_true rfl) ?_
  intro p e s m below meth c F hr hlk ls hl hH
  obtain ⟨hx, hb, hml, hown, hts⟩ := id F.1
  have hl : lv_has ls 3 [(0, .ref (eAd E 15)), (1, .int a)] := hl
  have inX5 : ∀ w ∈ wsX50, w ∈ wsX5_sampleError := fun w h => List.mem_cons_of_mem _ (List.mem_append_right _ h)
  have hnb := hE.2.2.2.2.1 3 (by decide)
  have hm4 := hE.2.2.2.2.2.2
  refine lv_iconst (v := 1) hx hb dX5_sampleError_0 (by decide) ?_
  refine lv_aload_n hx hb dX5_sampleError_1 rfl (lv_at hl 0 rfl) ?_
  refine g_get (x := .int (nI (eNb E 3))) F hH inX5 (hE.2.1 15 (by decide) (by decide)) (cq_mo E _) rfl 0 (by decide) (hts (.fieldLink RX5 59 "DryingKilnModel" "boards" "I") (by decide +kernel)) (fun _ h => h) rfl dX5_sampleError_2 ?_
  refine lv_ishl hx hb dX5_sampleError_5 ?_
  refine lv_iconst (v := 1) hx hb dX5_sampleError_6 (by decide) ?_
  refine lv_isub hx hb dX5_sampleError_7 ?_
  refine lv_istore_n (lv' := [(2, .int ((1 <<< ((nI (eNb E 3)) &&& 31)) - 1)), (0, .ref (eAd E 15)), (1, .int a)]) hx hb dX5_sampleError_8 rfl hl (by decide) rfl (fun ls hl => ?_)
  refine lv_iload_n hx hb dX5_sampleError_9 rfl (lv_at hl 2 rfl) ?_
  refine lv_if_eq (tgt := 21) hx hb dX5_sampleError_10 (by decide) (fun c1 => ?_) (fun c1 => ?_)
  · skip
    refine lv_ldc (v := -1000003) hx hb hown (hts (.constant RX5 66 (-1000003)) (by decide +kernel)) dX5_sampleError_21 ?_
    exact g_iret F hr hlk hH (by first | rfl | (simp only [mse, mall, c1, if_true, if_false, ↓reduceIte]; done) | (simp only [mse, mall, c1, if_true, if_false, ↓reduceIte]; rfl)) (by first | rfl | (simp only [mse, mall, c1, if_true, if_false, ↓reduceIte]; done) | (simp only [mse, mall, c1, if_true, if_false, ↓reduceIte]; rfl)) dX5_sampleError_23
  · skip
    refine lv_iload_n hx hb dX5_sampleError_13 rfl (lv_at hl 2 rfl) ?_
    refine lv_iload_n hx hb dX5_sampleError_14 rfl (lv_at hl 0 rfl) ?_
    refine lv_iconst (v := -1) hx hb dX5_sampleError_15 (by decide) ?_
    refine lv_ixor hx hb dX5_sampleError_16 ?_
    refine lv_iand hx hb dX5_sampleError_17 ?_
    refine lv_if_eq (tgt := 24) hx hb dX5_sampleError_18 (by decide) (fun c2 => ?_) (fun c2 => ?_)
    · skip
      refine lv_aload_n hx hb dX5_sampleError_24 rfl (lv_at hl 1 rfl) ?_
      refine lv_iload_n hx hb dX5_sampleError_25 rfl (lv_at hl 2 rfl) ?_
      refine g_vi (As := [.int a]) F hH (c_X5_meanOf l E hE v a (bits_ok (by omega) c1 c2).1) (cwV 1 hts gX5_sampleError_X5_meanOf rfl rfl rfl (by decide +kernel) ⟨Nat.le_of_ble_eq_true rfl, Nat.le_of_ble_eq_true rfl⟩) (hE.2.1 15 (by decide) (by decide)) (cq_mo E _) rfl rfl hl.1 [] rfl (Nat.le_of_ble_eq_true rfl) dX5_sampleError_26 ⟨Nat.zero_le _, Nat.zero_le _⟩ (fun H locs hH => ?_)
      refine lv_aload_n hx hb dX5_sampleError_29 rfl (lv_at hl 1 rfl) ?_
      refine lv_iload_n hx hb dX5_sampleError_30 rfl (lv_at hl 0 rfl) ?_
      refine g_vi (As := [.int ((1 <<< ((nI (eNb E 3)) &&& 31)) - 1)]) F hH (c_X5_meanOf l E hE v ((1 <<< ((nI (eNb E 3)) &&& 31)) - 1) (bits_ok (by omega) (bits_ne (by omega) c1 c2) (bits_all _ (by omega))).1) (cwV 1 hts gX5_sampleError_X5_meanOf rfl rfl rfl (by decide +kernel) ⟨Nat.le_of_ble_eq_true rfl, Nat.le_of_ble_eq_true rfl⟩) (hE.2.1 15 (by decide) (by decide)) (cq_mo E _) rfl rfl hl.1 [.int (mmean E v a)] rfl (Nat.le_of_ble_eq_true rfl) dX5_sampleError_31 ⟨Nat.zero_le _, Nat.zero_le _⟩ (fun H locs hH => ?_)
      refine lv_isub hx hb dX5_sampleError_34 ?_
      exact g_iret F hr hlk hH (by first | rfl | (simp only [mse, mall, c1, c2, if_true, if_false, ↓reduceIte]; done) | (simp only [mse, mall, c1, c2, if_true, if_false, ↓reduceIte]; rfl)) (by first | rfl | (simp only [mse, mall, c1, c2, if_true, if_false, ↓reduceIte]; done) | (simp only [mse, mall, c1, c2, if_true, if_false, ↓reduceIte]; rfl)) dX5_sampleError_35
    · skip
      refine lv_ldc (v := -1000003) hx hb hown (hts (.constant RX5 66 (-1000003)) (by decide +kernel)) dX5_sampleError_21 ?_
      exact g_iret F hr hlk hH (by first | rfl | (simp only [mse, mall, c1, c2, if_true, if_false, ↓reduceIte]; done) | (simp only [mse, mall, c1, c2, if_true, if_false, ↓reduceIte]; rfl)) (by first | rfl | (simp only [mse, mall, c1, c2, if_true, if_false, ↓reduceIte]; done) | (simp only [mse, mall, c1, c2, if_true, if_false, ↓reduceIte]; rfl)) dX5_sampleError_23

set_option maxHeartbeats 4000000 in
set_option maxRecDepth 100000 in
theorem c_X5_setDiffusion (l : Launch) (E : Ev) (hE : EO E) (v : Mem) (a : Int32) : Ci l yX5_setDiffusion wsX5_setDiffusion ({ frames := 1, cells := 0, slots := 0, locals := 22 } : Room) E [.ref (eAd E 15), .int a] v (msr v 5 a 1 250) (msm v 5 a 1 250) := by
  refine Ci.of (cc := cX5_setDiffusion) (maxL := 3) (ret := (some .int)) (own := RX5) (by decide) rfl rfl (Nat.le_of_ble_eq_true rfl) ?_
  intro p e s m below meth c F hr hlk ls hl hH
  obtain ⟨hx, hb, hml, hown, hts⟩ := id F.1
  have hl : lv_has ls 3 [(0, .ref (eAd E 15)), (1, .int a)] := hl
  have inX5 : ∀ w ∈ wsX50, w ∈ wsX5_setDiffusion := fun w h => List.mem_cons_of_mem _ (List.mem_append_right _ h)
  refine lv_iload_n hx hb dX5_setDiffusion_0 rfl (lv_at hl 1 rfl) ?_
  refine lv_iconst (v := 1) hx hb dX5_setDiffusion_1 (by decide) ?_
  refine lv_sipush (v := 250) hx hb dX5_setDiffusion_2 (by decide) ?_
  refine g_si (As := [.int a, .int 1, .int 250]) F hH (c_X5_isBetween l E hE v a 1 250) (va_cwS 3 hts gX5_setDiffusion_X5_isBetween rfl rfl rfl (by decide +kernel) ⟨Nat.le_of_ble_eq_true rfl, Nat.le_of_ble_eq_true rfl⟩) rfl hl.1 [] rfl (Nat.le_of_ble_eq_true rfl) dX5_setDiffusion_5 ⟨Nat.zero_le _, Nat.zero_le _⟩ (fun H locs hH => ?_)
  refine lv_if_ne (tgt := 14) hx hb dX5_setDiffusion_8 (by decide) (fun c1 => ?_) (fun c1 => ?_)
  · skip
    refine lv_aload_n hx hb dX5_setDiffusion_14 rfl (lv_at hl 0 rfl) ?_
    refine g_get (x := .int (v 15 5)) F hH inX5 (hE.2.1 15 (by decide) (by decide)) (cq_mo E _) rfl 5 (by decide) (hts (.fieldLink RX5 56 "DryingKilnModel" "diffusionNow" "I") (by decide +kernel)) (fun _ h => h) rfl dX5_setDiffusion_15 ?_
    refine lv_istore_n (lv' := [(2, .int (v 15 5)), (0, .ref (eAd E 15)), (1, .int a)]) hx hb dX5_setDiffusion_18 rfl hl (by decide) rfl (fun ls hl => ?_)
    refine lv_aload_n hx hb dX5_setDiffusion_19 rfl (lv_at hl 1 rfl) ?_
    refine lv_iload_n hx hb dX5_setDiffusion_20 rfl (lv_at hl 2 rfl) ?_
    refine g_put (ty := .int) (x := a) F hH inX5 tyX5 tyX5_ok nmX5 (hE.2.1 15 (by decide) (by decide)) (cq_mo E _) rfl 5 (by decide) (hts (.fieldLink RX5 56 "DryingKilnModel" "diffusionNow" "I") (by decide +kernel)) (fun _ h => h) rfl (by decide +kernel) rfl rfl (Nat.le_of_ble_eq_true rfl) (cq_mo E _) dX5_setDiffusion_21 (fun H locs hH => ?_)
    refine lv_iload_n hx hb dX5_setDiffusion_24 rfl (lv_at hl 0 rfl) ?_
    exact g_iret F hr hlk hH (by first | rfl | (simp only [msr, msm, c1, if_true, if_false, ↓reduceIte]; done) | (simp only [msr, msm, c1, if_true, if_false, ↓reduceIte]; rfl)) (by first | rfl | (simp only [msr, msm, c1, if_true, if_false, ↓reduceIte]; done) | (simp only [msr, msm, c1, if_true, if_false, ↓reduceIte]; rfl)) dX5_setDiffusion_25
  · skip
    refine lv_ldc (v := -1000003) hx hb hown (hts (.constant RX5 66 (-1000003)) (by decide +kernel)) dX5_setDiffusion_11 ?_
    exact g_iret F hr hlk hH (by first | rfl | (simp only [msr, msm, c1, if_true, if_false, ↓reduceIte]; done) | (simp only [msr, msm, c1, if_true, if_false, ↓reduceIte]; rfl)) (by first | rfl | (simp only [msr, msm, c1, if_true, if_false, ↓reduceIte]; done) | (simp only [msr, msm, c1, if_true, if_false, ↓reduceIte]; rfl)) dX5_setDiffusion_13

set_option maxHeartbeats 4000000 in
set_option maxRecDepth 100000 in
theorem c_X5_setSurface (l : Launch) (E : Ev) (hE : EO E) (v : Mem) (a : Int32) : Ci l yX5_setSurface wsX5_setSurface ({ frames := 1, cells := 0, slots := 0, locals := 22 } : Room) E [.ref (eAd E 15), .int a] v (msr v 6 a 1 500) (msm v 6 a 1 500) := by
  refine Ci.of (cc := cX5_setSurface) (maxL := 3) (ret := (some .int)) (own := RX5) (by decide) rfl rfl (Nat.le_of_ble_eq_true rfl) ?_
  intro p e s m below meth c F hr hlk ls hl hH
  obtain ⟨hx, hb, hml, hown, hts⟩ := id F.1
  have hl : lv_has ls 3 [(0, .ref (eAd E 15)), (1, .int a)] := hl
  have inX5 : ∀ w ∈ wsX50, w ∈ wsX5_setSurface := fun w h => List.mem_cons_of_mem _ (List.mem_append_right _ h)
  refine lv_iload_n hx hb dX5_setSurface_0 rfl (lv_at hl 1 rfl) ?_
  refine lv_iconst (v := 1) hx hb dX5_setSurface_1 (by decide) ?_
  refine lv_sipush (v := 500) hx hb dX5_setSurface_2 (by decide) ?_
  refine g_si (As := [.int a, .int 1, .int 500]) F hH (c_X5_isBetween l E hE v a 1 500) (va_cwS 3 hts gX5_setSurface_X5_isBetween rfl rfl rfl (by decide +kernel) ⟨Nat.le_of_ble_eq_true rfl, Nat.le_of_ble_eq_true rfl⟩) rfl hl.1 [] rfl (Nat.le_of_ble_eq_true rfl) dX5_setSurface_5 ⟨Nat.zero_le _, Nat.zero_le _⟩ (fun H locs hH => ?_)
  refine lv_if_ne (tgt := 14) hx hb dX5_setSurface_8 (by decide) (fun c1 => ?_) (fun c1 => ?_)
  · skip
    refine lv_aload_n hx hb dX5_setSurface_14 rfl (lv_at hl 0 rfl) ?_
    refine g_get (x := .int (v 15 6)) F hH inX5 (hE.2.1 15 (by decide) (by decide)) (cq_mo E _) rfl 6 (by decide) (hts (.fieldLink RX5 22 "DryingKilnModel" "surfaceNow" "I") (by decide +kernel)) (fun _ h => h) rfl dX5_setSurface_15 ?_
    refine lv_istore_n (lv' := [(2, .int (v 15 6)), (0, .ref (eAd E 15)), (1, .int a)]) hx hb dX5_setSurface_18 rfl hl (by decide) rfl (fun ls hl => ?_)
    refine lv_aload_n hx hb dX5_setSurface_19 rfl (lv_at hl 1 rfl) ?_
    refine lv_iload_n hx hb dX5_setSurface_20 rfl (lv_at hl 2 rfl) ?_
    refine g_put (ty := .int) (x := a) F hH inX5 tyX5 tyX5_ok nmX5 (hE.2.1 15 (by decide) (by decide)) (cq_mo E _) rfl 6 (by decide) (hts (.fieldLink RX5 22 "DryingKilnModel" "surfaceNow" "I") (by decide +kernel)) (fun _ h => h) rfl (by decide +kernel) rfl rfl (Nat.le_of_ble_eq_true rfl) (cq_mo E _) dX5_setSurface_21 (fun H locs hH => ?_)
    refine lv_iload_n hx hb dX5_setSurface_24 rfl (lv_at hl 0 rfl) ?_
    exact g_iret F hr hlk hH (by first | rfl | (simp only [msr, msm, c1, if_true, if_false, ↓reduceIte]; done) | (simp only [msr, msm, c1, if_true, if_false, ↓reduceIte]; rfl)) (by first | rfl | (simp only [msr, msm, c1, if_true, if_false, ↓reduceIte]; done) | (simp only [msr, msm, c1, if_true, if_false, ↓reduceIte]; rfl)) dX5_setSurface_25
  · skip
    refine lv_ldc (v := -1000003) hx hb hown (hts (.constant RX5 66 (-1000003)) (by decide +kernel)) dX5_setSurface_11 ?_
    exact g_iret F hr hlk hH (by first | rfl | (simp only [msr, msm, c1, if_true, if_false, ↓reduceIte]; done) | (simp only [msr, msm, c1, if_true, if_false, ↓reduceIte]; rfl)) (by first | rfl | (simp only [msr, msm, c1, if_true, if_false, ↓reduceIte]; done) | (simp only [msr, msm, c1, if_true, if_false, ↓reduceIte]; rfl)) dX5_setSurface_13

set_option maxHeartbeats 4000000 in
set_option maxRecDepth 100000 in
theorem c_X5_setCapacity (l : Launch) (E : Ev) (hE : EO E) (v : Mem) (a : Int32) : Ci l yX5_setCapacity wsX5_setCapacity ({ frames := 1, cells := 0, slots := 0, locals := 22 } : Room) E [.ref (eAd E 15), .int a] v (msr v 7 a 1 10000) (msm v 7 a 1 10000) := by
  refine Ci.of (cc := cX5_setCapacity) (maxL := 3) (ret := (some .int)) (own := RX5) (by decide) rfl rfl (Nat.le_of_ble_eq_true rfl) ?_
  intro p e s m below meth c F hr hlk ls hl hH
  obtain ⟨hx, hb, hml, hown, hts⟩ := id F.1
  have hl : lv_has ls 3 [(0, .ref (eAd E 15)), (1, .int a)] := hl
  have inX5 : ∀ w ∈ wsX50, w ∈ wsX5_setCapacity := fun w h => List.mem_cons_of_mem _ (List.mem_append_right _ h)
  refine lv_iload_n hx hb dX5_setCapacity_0 rfl (lv_at hl 1 rfl) ?_
  refine lv_iconst (v := 1) hx hb dX5_setCapacity_1 (by decide) ?_
  refine lv_sipush (v := 10000) hx hb dX5_setCapacity_2 (by decide) ?_
  refine g_si (As := [.int a, .int 1, .int 10000]) F hH (c_X5_isBetween l E hE v a 1 10000) (va_cwS 3 hts gX5_setCapacity_X5_isBetween rfl rfl rfl (by decide +kernel) ⟨Nat.le_of_ble_eq_true rfl, Nat.le_of_ble_eq_true rfl⟩) rfl hl.1 [] rfl (Nat.le_of_ble_eq_true rfl) dX5_setCapacity_5 ⟨Nat.zero_le _, Nat.zero_le _⟩ (fun H locs hH => ?_)
  refine lv_if_ne (tgt := 14) hx hb dX5_setCapacity_8 (by decide) (fun c1 => ?_) (fun c1 => ?_)
  · skip
    refine lv_aload_n hx hb dX5_setCapacity_14 rfl (lv_at hl 0 rfl) ?_
    refine g_get (x := .int (v 15 7)) F hH inX5 (hE.2.1 15 (by decide) (by decide)) (cq_mo E _) rfl 7 (by decide) (hts (.fieldLink RX5 26 "DryingKilnModel" "capacityNow" "I") (by decide +kernel)) (fun _ h => h) rfl dX5_setCapacity_15 ?_
    refine lv_istore_n (lv' := [(2, .int (v 15 7)), (0, .ref (eAd E 15)), (1, .int a)]) hx hb dX5_setCapacity_18 rfl hl (by decide) rfl (fun ls hl => ?_)
    refine lv_aload_n hx hb dX5_setCapacity_19 rfl (lv_at hl 1 rfl) ?_
    refine lv_iload_n hx hb dX5_setCapacity_20 rfl (lv_at hl 2 rfl) ?_
    refine g_put (ty := .int) (x := a) F hH inX5 tyX5 tyX5_ok nmX5 (hE.2.1 15 (by decide) (by decide)) (cq_mo E _) rfl 7 (by decide) (hts (.fieldLink RX5 26 "DryingKilnModel" "capacityNow" "I") (by decide +kernel)) (fun _ h => h) rfl (by decide +kernel) rfl rfl (Nat.le_of_ble_eq_true rfl) (cq_mo E _) dX5_setCapacity_21 (fun H locs hH => ?_)
    refine lv_iload_n hx hb dX5_setCapacity_24 rfl (lv_at hl 0 rfl) ?_
    exact g_iret F hr hlk hH (by first | rfl | (simp only [msr, msm, c1, if_true, if_false, ↓reduceIte]; done) | (simp only [msr, msm, c1, if_true, if_false, ↓reduceIte]; rfl)) (by first | rfl | (simp only [msr, msm, c1, if_true, if_false, ↓reduceIte]; done) | (simp only [msr, msm, c1, if_true, if_false, ↓reduceIte]; rfl)) dX5_setCapacity_25
  · skip
    refine lv_ldc (v := -1000003) hx hb hown (hts (.constant RX5 66 (-1000003)) (by decide +kernel)) dX5_setCapacity_11 ?_
    exact g_iret F hr hlk hH (by first | rfl | (simp only [msr, msm, c1, if_true, if_false, ↓reduceIte]; done) | (simp only [msr, msm, c1, if_true, if_false, ↓reduceIte]; rfl)) (by first | rfl | (simp only [msr, msm, c1, if_true, if_false, ↓reduceIte]; done) | (simp only [msr, msm, c1, if_true, if_false, ↓reduceIte]; rfl)) dX5_setCapacity_13

set_option maxHeartbeats 4000000 in
set_option maxRecDepth 100000 in
theorem c_X5_setStrainLimit (l : Launch) (E : Ev) (hE : EO E) (v : Mem) (a : Int32) : Ci l yX5_setStrainLimit wsX5_setStrainLimit ({ frames := 1, cells := 0, slots := 0, locals := 22 } : Room) E [.ref (eAd E 15), .int a] v (msr v 8 a 20 900) (msm v 8 a 20 900) := by
  refine Ci.of (cc := cX5_setStrainLimit) (maxL := 3) (ret := (some .int)) (own := RX5) (by decide) rfl rfl (Nat.le_of_ble_eq_true rfl) ?_
  intro p e s m below meth c F hr hlk ls hl hH
  obtain ⟨hx, hb, hml, hown, hts⟩ := id F.1
  have hl : lv_has ls 3 [(0, .ref (eAd E 15)), (1, .int a)] := hl
  have inX5 : ∀ w ∈ wsX50, w ∈ wsX5_setStrainLimit := fun w h => List.mem_cons_of_mem _ (List.mem_append_right _ h)
  refine lv_iload_n hx hb dX5_setStrainLimit_0 rfl (lv_at hl 1 rfl) ?_
  refine lv_bipush (v := 20) hx hb dX5_setStrainLimit_1 (by decide) ?_
  refine lv_sipush (v := 900) hx hb dX5_setStrainLimit_3 (by decide) ?_
  refine g_si (As := [.int a, .int 20, .int 900]) F hH (c_X5_isBetween l E hE v a 20 900) (va_cwS 3 hts gX5_setStrainLimit_X5_isBetween rfl rfl rfl (by decide +kernel) ⟨Nat.le_of_ble_eq_true rfl, Nat.le_of_ble_eq_true rfl⟩) rfl hl.1 [] rfl (Nat.le_of_ble_eq_true rfl) dX5_setStrainLimit_6 ⟨Nat.zero_le _, Nat.zero_le _⟩ (fun H locs hH => ?_)
  refine lv_if_ne (tgt := 15) hx hb dX5_setStrainLimit_9 (by decide) (fun c1 => ?_) (fun c1 => ?_)
  · skip
    refine lv_aload_n hx hb dX5_setStrainLimit_15 rfl (lv_at hl 0 rfl) ?_
    refine g_get (x := .int (v 15 8)) F hH inX5 (hE.2.1 15 (by decide) (by decide)) (cq_mo E _) rfl 8 (by decide) (hts (.fieldLink RX5 29 "DryingKilnModel" "limitNow" "I") (by decide +kernel)) (fun _ h => h) rfl dX5_setStrainLimit_16 ?_
    refine lv_istore_n (lv' := [(2, .int (v 15 8)), (0, .ref (eAd E 15)), (1, .int a)]) hx hb dX5_setStrainLimit_19 rfl hl (by decide) rfl (fun ls hl => ?_)
    refine lv_aload_n hx hb dX5_setStrainLimit_20 rfl (lv_at hl 1 rfl) ?_
    refine lv_iload_n hx hb dX5_setStrainLimit_21 rfl (lv_at hl 2 rfl) ?_
    refine g_put (ty := .int) (x := a) F hH inX5 tyX5 tyX5_ok nmX5 (hE.2.1 15 (by decide) (by decide)) (cq_mo E _) rfl 8 (by decide) (hts (.fieldLink RX5 29 "DryingKilnModel" "limitNow" "I") (by decide +kernel)) (fun _ h => h) rfl (by decide +kernel) rfl rfl (Nat.le_of_ble_eq_true rfl) (cq_mo E _) dX5_setStrainLimit_22 (fun H locs hH => ?_)
    refine lv_iload_n hx hb dX5_setStrainLimit_25 rfl (lv_at hl 0 rfl) ?_
    exact g_iret F hr hlk hH (by first | rfl | (simp only [msr, msm, c1, if_true, if_false, ↓reduceIte]; done) | (simp only [msr, msm, c1, if_true, if_false, ↓reduceIte]; rfl)) (by first | rfl | (simp only [msr, msm, c1, if_true, if_false, ↓reduceIte]; done) | (simp only [msr, msm, c1, if_true, if_false, ↓reduceIte]; rfl)) dX5_setStrainLimit_26
  · skip
    refine lv_ldc (v := -1000003) hx hb hown (hts (.constant RX5 66 (-1000003)) (by decide +kernel)) dX5_setStrainLimit_12 ?_
    exact g_iret F hr hlk hH (by first | rfl | (simp only [msr, msm, c1, if_true, if_false, ↓reduceIte]; done) | (simp only [msr, msm, c1, if_true, if_false, ↓reduceIte]; rfl)) (by first | rfl | (simp only [msr, msm, c1, if_true, if_false, ↓reduceIte]; done) | (simp only [msr, msm, c1, if_true, if_false, ↓reduceIte]; rfl)) dX5_setStrainLimit_14

set_option maxHeartbeats 4000000 in
set_option maxRecDepth 100000 in
theorem c_X5_setHumidity (l : Launch) (E : Ev) (hE : EO E) (v : Mem) (a : Int32) : Ci l yX5_setHumidity wsX5_setHumidity ({ frames := 1, cells := 0, slots := 0, locals := 22 } : Room) E [.ref (eAd E 15), .int a] v (msr v 9 a 0 300) (msm v 9 a 0 300) := by
  refine Ci.of (cc := cX5_setHumidity) (maxL := 3) (ret := (some .int)) (own := RX5) (by decide) rfl rfl (Nat.le_of_ble_eq_true rfl) ?_
  intro p e s m below meth c F hr hlk ls hl hH
  obtain ⟨hx, hb, hml, hown, hts⟩ := id F.1
  have hl : lv_has ls 3 [(0, .ref (eAd E 15)), (1, .int a)] := hl
  have inX5 : ∀ w ∈ wsX50, w ∈ wsX5_setHumidity := fun w h => List.mem_cons_of_mem _ (List.mem_append_right _ h)
  refine lv_iload_n hx hb dX5_setHumidity_0 rfl (lv_at hl 1 rfl) ?_
  refine lv_iconst (v := 0) hx hb dX5_setHumidity_1 (by decide) ?_
  refine lv_sipush (v := 300) hx hb dX5_setHumidity_2 (by decide) ?_
  refine g_si (As := [.int a, .int 0, .int 300]) F hH (c_X5_isBetween l E hE v a 0 300) (va_cwS 3 hts gX5_setHumidity_X5_isBetween rfl rfl rfl (by decide +kernel) ⟨Nat.le_of_ble_eq_true rfl, Nat.le_of_ble_eq_true rfl⟩) rfl hl.1 [] rfl (Nat.le_of_ble_eq_true rfl) dX5_setHumidity_5 ⟨Nat.zero_le _, Nat.zero_le _⟩ (fun H locs hH => ?_)
  refine lv_if_ne (tgt := 14) hx hb dX5_setHumidity_8 (by decide) (fun c1 => ?_) (fun c1 => ?_)
  · skip
    refine lv_aload_n hx hb dX5_setHumidity_14 rfl (lv_at hl 0 rfl) ?_
    refine g_get (x := .int (v 15 9)) F hH inX5 (hE.2.1 15 (by decide) (by decide)) (cq_mo E _) rfl 9 (by decide) (hts (.fieldLink RX5 32 "DryingKilnModel" "humidityNow" "I") (by decide +kernel)) (fun _ h => h) rfl dX5_setHumidity_15 ?_
    refine lv_istore_n (lv' := [(2, .int (v 15 9)), (0, .ref (eAd E 15)), (1, .int a)]) hx hb dX5_setHumidity_18 rfl hl (by decide) rfl (fun ls hl => ?_)
    refine lv_aload_n hx hb dX5_setHumidity_19 rfl (lv_at hl 1 rfl) ?_
    refine lv_iload_n hx hb dX5_setHumidity_20 rfl (lv_at hl 2 rfl) ?_
    refine g_put (ty := .int) (x := a) F hH inX5 tyX5 tyX5_ok nmX5 (hE.2.1 15 (by decide) (by decide)) (cq_mo E _) rfl 9 (by decide) (hts (.fieldLink RX5 32 "DryingKilnModel" "humidityNow" "I") (by decide +kernel)) (fun _ h => h) rfl (by decide +kernel) rfl rfl (Nat.le_of_ble_eq_true rfl) (cq_mo E _) dX5_setHumidity_21 (fun H locs hH => ?_)
    refine lv_iload_n hx hb dX5_setHumidity_24 rfl (lv_at hl 0 rfl) ?_
    exact g_iret F hr hlk hH (by first | rfl | (simp only [msr, msm, c1, if_true, if_false, ↓reduceIte]; done) | (simp only [msr, msm, c1, if_true, if_false, ↓reduceIte]; rfl)) (by first | rfl | (simp only [msr, msm, c1, if_true, if_false, ↓reduceIte]; done) | (simp only [msr, msm, c1, if_true, if_false, ↓reduceIte]; rfl)) dX5_setHumidity_25
  · skip
    refine lv_ldc (v := -1000003) hx hb hown (hts (.constant RX5 66 (-1000003)) (by decide +kernel)) dX5_setHumidity_11 ?_
    exact g_iret F hr hlk hH (by first | rfl | (simp only [msr, msm, c1, if_true, if_false, ↓reduceIte]; done) | (simp only [msr, msm, c1, if_true, if_false, ↓reduceIte]; rfl)) (by first | rfl | (simp only [msr, msm, c1, if_true, if_false, ↓reduceIte]; done) | (simp only [msr, msm, c1, if_true, if_false, ↓reduceIte]; rfl)) dX5_setHumidity_13

set_option maxHeartbeats 4000000 in
set_option maxRecDepth 100000 in
theorem c_X5_setReversalPeriod (l : Launch) (E : Ev) (hE : EO E) (v : Mem) (a : Int32) : Ci l yX5_setReversalPeriod wsX5_setReversalPeriod ({ frames := 1, cells := 0, slots := 0, locals := 22 } : Room) E [.ref (eAd E 15), .int a] v (msr v 11 a 0 48) (msm v 11 a 0 48) := by
  refine Ci.of (cc := cX5_setReversalPeriod) (maxL := 3) (ret := (some .int)) (own := RX5) (by decide) rfl rfl (Nat.le_of_ble_eq_true rfl) ?_
  intro p e s m below meth c F hr hlk ls hl hH
  obtain ⟨hx, hb, hml, hown, hts⟩ := id F.1
  have hl : lv_has ls 3 [(0, .ref (eAd E 15)), (1, .int a)] := hl
  have inX5 : ∀ w ∈ wsX50, w ∈ wsX5_setReversalPeriod := fun w h => List.mem_cons_of_mem _ (List.mem_append_right _ h)
  refine lv_iload_n hx hb dX5_setReversalPeriod_0 rfl (lv_at hl 1 rfl) ?_
  refine lv_iconst (v := 0) hx hb dX5_setReversalPeriod_1 (by decide) ?_
  refine lv_bipush (v := 48) hx hb dX5_setReversalPeriod_2 (by decide) ?_
  refine g_si (As := [.int a, .int 0, .int 48]) F hH (c_X5_isBetween l E hE v a 0 48) (va_cwS 3 hts gX5_setReversalPeriod_X5_isBetween rfl rfl rfl (by decide +kernel) ⟨Nat.le_of_ble_eq_true rfl, Nat.le_of_ble_eq_true rfl⟩) rfl hl.1 [] rfl (Nat.le_of_ble_eq_true rfl) dX5_setReversalPeriod_4 ⟨Nat.zero_le _, Nat.zero_le _⟩ (fun H locs hH => ?_)
  refine lv_if_ne (tgt := 13) hx hb dX5_setReversalPeriod_7 (by decide) (fun c1 => ?_) (fun c1 => ?_)
  · skip
    refine lv_aload_n hx hb dX5_setReversalPeriod_13 rfl (lv_at hl 0 rfl) ?_
    refine g_get (x := .int (v 15 11)) F hH inX5 (hE.2.1 15 (by decide) (by decide)) (cq_mo E _) rfl 11 (by decide) (hts (.fieldLink RX5 100 "DryingKilnModel" "period" "I") (by decide +kernel)) (fun _ h => h) rfl dX5_setReversalPeriod_14 ?_
    refine lv_istore_n (lv' := [(2, .int (v 15 11)), (0, .ref (eAd E 15)), (1, .int a)]) hx hb dX5_setReversalPeriod_17 rfl hl (by decide) rfl (fun ls hl => ?_)
    refine lv_aload_n hx hb dX5_setReversalPeriod_18 rfl (lv_at hl 1 rfl) ?_
    refine lv_iload_n hx hb dX5_setReversalPeriod_19 rfl (lv_at hl 2 rfl) ?_
    refine g_put (ty := .int) (x := a) F hH inX5 tyX5 tyX5_ok nmX5 (hE.2.1 15 (by decide) (by decide)) (cq_mo E _) rfl 11 (by decide) (hts (.fieldLink RX5 100 "DryingKilnModel" "period" "I") (by decide +kernel)) (fun _ h => h) rfl (by decide +kernel) rfl rfl (Nat.le_of_ble_eq_true rfl) (cq_mo E _) dX5_setReversalPeriod_20 (fun H locs hH => ?_)
    refine lv_iload_n hx hb dX5_setReversalPeriod_23 rfl (lv_at hl 0 rfl) ?_
    exact g_iret F hr hlk hH (by first | rfl | (simp only [msr, msm, c1, if_true, if_false, ↓reduceIte]; done) | (simp only [msr, msm, c1, if_true, if_false, ↓reduceIte]; rfl)) (by first | rfl | (simp only [msr, msm, c1, if_true, if_false, ↓reduceIte]; done) | (simp only [msr, msm, c1, if_true, if_false, ↓reduceIte]; rfl)) dX5_setReversalPeriod_24
  · skip
    refine lv_ldc (v := -1000003) hx hb hown (hts (.constant RX5 66 (-1000003)) (by decide +kernel)) dX5_setReversalPeriod_10 ?_
    exact g_iret F hr hlk hH (by first | rfl | (simp only [msr, msm, c1, if_true, if_false, ↓reduceIte]; done) | (simp only [msr, msm, c1, if_true, if_false, ↓reduceIte]; rfl)) (by first | rfl | (simp only [msr, msm, c1, if_true, if_false, ↓reduceIte]; done) | (simp only [msr, msm, c1, if_true, if_false, ↓reduceIte]; rfl)) dX5_setReversalPeriod_12

set_option maxHeartbeats 4000000 in
set_option maxRecDepth 100000 in
theorem c_X5_setFan (l : Launch) (E : Ev) (hE : EO E) (v : Mem) (a : Int32) (ha : isB a) : Ci l yX5_setFan wsX5_setFan ({ frames := 0, cells := 0, slots := 0, locals := 0 } : Room) E [.ref (eAd E 15), .int a] v (if v 15 10 = a then 0 else 1) (st v 15 10 a) := by
  refine Ci.of (cc := cX5_setFan) (maxL := 3) (ret := (some .int)) (own := RX5) (by decide) rfl rfl (Nat.le_of_ble_eq_true rfl) ?_
  intro p e s m below meth c F hr hlk ls hl hH
  obtain ⟨hx, hb, hml, hown, hts⟩ := id F.1
  have hl : lv_has ls 3 [(0, .ref (eAd E 15)), (1, .int a)] := hl
  have inX5 : ∀ w ∈ wsX50, w ∈ wsX5_setFan := fun w h => List.mem_cons_of_mem _ (List.mem_append_right _ h)
  refine lv_aload_n hx hb dX5_setFan_0 rfl (lv_at hl 0 rfl) ?_
  refine g_get (x := .int (v 15 10)) F hH inX5 (hE.2.1 15 (by decide) (by decide)) (cq_mo E _) rfl 10 (by decide) (hts (.fieldLink RX5 96 "DryingKilnModel" "isReversed" "Z") (by decide +kernel)) (fun _ h => h) rfl dX5_setFan_1 ?_
  refine lv_iload_n hx hb dX5_setFan_4 rfl (lv_at hl 1 rfl) ?_
  refine lv_icmp_ne (tgt := 12) hx hb dX5_setFan_5 (by decide) (fun c1 => ?_) (fun c1 => ?_)
  · skip
    refine lv_iconst (v := 1) hx hb dX5_setFan_12 (by decide) ?_
    refine lv_istore_n (lv' := [(2, .int 1), (0, .ref (eAd E 15)), (1, .int a)]) hx hb dX5_setFan_13 rfl hl (by decide) rfl (fun ls hl => ?_)
    refine lv_aload_n hx hb dX5_setFan_14 rfl (lv_at hl 1 rfl) ?_
    refine lv_iload_n hx hb dX5_setFan_15 rfl (lv_at hl 2 rfl) ?_
    refine g_put (ty := .boolean) (x := a) F hH inX5 tyX5 tyX5_ok nmX5 (hE.2.1 15 (by decide) (by decide)) (cq_mo E _) rfl 10 (by decide) (hts (.fieldLink RX5 96 "DryingKilnModel" "isReversed" "Z") (by decide +kernel)) (fun _ h => h) rfl (by decide +kernel) ha.n ha.f (Nat.le_of_ble_eq_true rfl) (cq_mo E _) dX5_setFan_16 (fun H locs hH => ?_)
    refine lv_iload_n hx hb dX5_setFan_19 rfl (lv_at hl 0 rfl) ?_
    exact g_iret F hr hlk hH (by first | rfl | (simp only [c1, if_true, if_false, ↓reduceIte]; done) | (simp only [c1, if_true, if_false, ↓reduceIte]; rfl)) (by first | rfl | (simp only [c1, if_true, if_false, ↓reduceIte]; done) | (simp only [c1, if_true, if_false, ↓reduceIte]; rfl)) dX5_setFan_20
  · skip
    refine lv_iconst (v := 0) hx hb dX5_setFan_8 (by decide) ?_
    refine lv_goto (tgt := 13) hx hb dX5_setFan_9 (by decide) ?_
    refine lv_istore_n (lv' := [(2, .int 0), (0, .ref (eAd E 15)), (1, .int a)]) hx hb dX5_setFan_13 rfl hl (by decide) rfl (fun ls hl => ?_)
    refine lv_aload_n hx hb dX5_setFan_14 rfl (lv_at hl 1 rfl) ?_
    refine lv_iload_n hx hb dX5_setFan_15 rfl (lv_at hl 2 rfl) ?_
    refine g_put (ty := .boolean) (x := a) F hH inX5 tyX5 tyX5_ok nmX5 (hE.2.1 15 (by decide) (by decide)) (cq_mo E _) rfl 10 (by decide) (hts (.fieldLink RX5 96 "DryingKilnModel" "isReversed" "Z") (by decide +kernel)) (fun _ h => h) rfl (by decide +kernel) ha.n ha.f (Nat.le_of_ble_eq_true rfl) (cq_mo E _) dX5_setFan_16 (fun H locs hH => ?_)
    refine lv_iload_n hx hb dX5_setFan_19 rfl (lv_at hl 0 rfl) ?_
    exact g_iret F hr hlk hH (by first | rfl | (simp only [c1, if_true, if_false, ↓reduceIte]; done) | (simp only [c1, if_true, if_false, ↓reduceIte]; rfl)) (by first | rfl | (simp only [c1, if_true, if_false, ↓reduceIte]; done) | (simp only [c1, if_true, if_false, ↓reduceIte]; rfl)) dX5_setFan_20

set_option maxHeartbeats 4000000 in
set_option maxRecDepth 100000 in
theorem c_X5_isFanReversed (l : Launch) (E : Ev) (hE : EO E) (v : Mem) : Ci l yX5_isFanReversed wsX5_isFanReversed ({ frames := 0, cells := 0, slots := 0, locals := 0 } : Room) E [.ref (eAd E 15)] v (if v 15 10 = 0 then 0 else 1) v := by
  refine Ci.of (cc := cX5_isFanReversed) (maxL := 1) (ret := (some .int)) (own := RX5) (by decide) rfl rfl (Nat.le_of_ble_eq_true rfl) ?_
  intro p e s m below meth c F hr hlk ls hl hH
  obtain ⟨hx, hb, hml, hown, hts⟩ := id F.1
  have hl : lv_has ls 1 [(0, .ref (eAd E 15))] := hl
  have inX5 : ∀ w ∈ wsX50, w ∈ wsX5_isFanReversed := fun w h => List.mem_cons_of_mem _ (List.mem_append_right _ h)
  refine lv_aload_n hx hb dX5_isFanReversed_0 rfl (lv_at hl 0 rfl) ?_
  refine g_get (x := .int (v 15 10)) F hH inX5 (hE.2.1 15 (by decide) (by decide)) (cq_mo E _) rfl 10 (by decide) (hts (.fieldLink RX5 96 "DryingKilnModel" "isReversed" "Z") (by decide +kernel)) (fun _ h => h) rfl dX5_isFanReversed_1 ?_
  refine lv_if_eq (tgt := 11) hx hb dX5_isFanReversed_4 (by decide) (fun c1 => ?_) (fun c1 => ?_)
  · skip
    refine lv_iconst (v := 0) hx hb dX5_isFanReversed_11 (by decide) ?_
    exact g_iret F hr hlk hH (by first | rfl | (simp only [c1, if_true, if_false, ↓reduceIte]; done) | (simp only [c1, if_true, if_false, ↓reduceIte]; rfl)) (by first | rfl | (simp only [c1, if_true, if_false, ↓reduceIte]; done) | (simp only [c1, if_true, if_false, ↓reduceIte]; rfl)) dX5_isFanReversed_12
  · skip
    refine lv_iconst (v := 1) hx hb dX5_isFanReversed_7 (by decide) ?_
    refine lv_goto (tgt := 12) hx hb dX5_isFanReversed_8 (by decide) ?_
    exact g_iret F hr hlk hH (by first | rfl | (simp only [c1, if_true, if_false, ↓reduceIte]; done) | (simp only [c1, if_true, if_false, ↓reduceIte]; rfl)) (by first | rfl | (simp only [c1, if_true, if_false, ↓reduceIte]; done) | (simp only [c1, if_true, if_false, ↓reduceIte]; rfl)) dX5_isFanReversed_12

set_option maxHeartbeats 4000000 in
set_option maxRecDepth 100000 in
theorem c_X5_hour (l : Launch) (E : Ev) (hE : EO E) (v : Mem) : Ci l yX5_hour wsX5_hour ({ frames := 0, cells := 0, slots := 0, locals := 0 } : Room) E [.ref (eAd E 15)] v (v 15 12) v := by
  refine Ci.of (cc := cX5_hour) (maxL := 1) (ret := (some .int)) (own := RX5) (by decide) rfl rfl (Nat.le_of_ble_eq_true rfl) ?_
  intro p e s m below meth c F hr hlk ls hl hH
  obtain ⟨hx, hb, hml, hown, hts⟩ := id F.1
  have hl : lv_has ls 1 [(0, .ref (eAd E 15))] := hl
  have inX5 : ∀ w ∈ wsX50, w ∈ wsX5_hour := fun w h => List.mem_cons_of_mem _ (List.mem_append_right _ h)
  refine lv_aload_n hx hb dX5_hour_0 rfl (lv_at hl 0 rfl) ?_
  refine g_get (x := .int (v 15 12)) F hH inX5 (hE.2.1 15 (by decide) (by decide)) (cq_mo E _) rfl 12 (by decide) (hts (.fieldLink RX5 107 "DryingKilnModel" "hours" "I") (by decide +kernel)) (fun _ h => h) rfl dX5_hour_1 ?_
  exact g_iret F hr hlk hH (by first | rfl | (simp only [if_true, if_false, ↓reduceIte]; done) | (simp only [if_true, if_false, ↓reduceIte]; rfl)) (by first | rfl | (simp only [if_true, if_false, ↓reduceIte]; done) | (simp only [if_true, if_false, ↓reduceIte]; rfl)) dX5_hour_4

set_option maxHeartbeats 4000000 in
set_option maxRecDepth 100000 in
theorem c_X5_evaporated (l : Launch) (E : Ev) (hE : EO E) (v : Mem) : Ci l yX5_evaporated wsX5_evaporated ({ frames := 0, cells := 0, slots := 0, locals := 0 } : Room) E [.ref (eAd E 15)] v (v 15 14) v := by
  refine Ci.of (cc := cX5_evaporated) (maxL := 1) (ret := (some .int)) (own := RX5) (by decide) rfl rfl (Nat.le_of_ble_eq_true rfl) ?_
  intro p e s m below meth c F hr hlk ls hl hH
  obtain ⟨hx, hb, hml, hown, hts⟩ := id F.1
  have hl : lv_has ls 1 [(0, .ref (eAd E 15))] := hl
  have inX5 : ∀ w ∈ wsX50, w ∈ wsX5_evaporated := fun w h => List.mem_cons_of_mem _ (List.mem_append_right _ h)
  refine lv_aload_n hx hb dX5_evaporated_0 rfl (lv_at hl 0 rfl) ?_
  refine g_get (x := .int (v 15 14)) F hH inX5 (hE.2.1 15 (by decide) (by decide)) (cq_mo E _) rfl 14 (by decide) (hts (.fieldLink RX5 116 "DryingKilnModel" "total" "I") (by decide +kernel)) (fun _ h => h) rfl dX5_evaporated_1 ?_
  exact g_iret F hr hlk hH (by first | rfl | (simp only [if_true, if_false, ↓reduceIte]; done) | (simp only [if_true, if_false, ↓reduceIte]; rfl)) (by first | rfl | (simp only [if_true, if_false, ↓reduceIte]; done) | (simp only [if_true, if_false, ↓reduceIte]; rfl)) dX5_evaporated_4

set_option maxHeartbeats 4000000 in
set_option maxRecDepth 100000 in
theorem c_X5_move_1 (l : Launch) (E : Ev) (hE : EO E) (v : Mem) (b : Nat) (a : Int32) (hb : b < eNb E 3) : Ci l yX5_move wsX5_move ({ frames := 0, cells := 0, slots := 0, locals := 0 } : Room) E [.ref (eAd E 15), .int (nI b), .int 1, .int a] v ((mbot E v b a) - -(mtop v b a)) (mmv E b (mtop v b a) (mbot E v b a) v) := by
  refine Ci.of (cc := cX5_move) (maxL := 7) (ret := (some .int)) (own := RX5) (by decide) rfl rfl (Nat.le_of_ble_eq_true rfl) ?_
  intro p e s m below meth c F hr hlk ls hl hH
  obtain ⟨hx, hb, hml, hown, hts⟩ := id F.1
  have hl : lv_has ls 7 [(0, .ref (eAd E 15)), (1, .int (nI b)), (2, .int 1), (3, .int a)] := hl
  have inX5 : ∀ w ∈ wsX50, w ∈ wsX5_move := fun w h => List.mem_cons_of_mem _ (List.mem_append_right _ h)
  have hnb := hE.2.2.2.2.1 3 (by decide)
  have hm4 := hE.2.2.2.2.2.2
  have hln := hE.2.2.2.2.2.1 b (by omega)
  refine lv_bipush (v := 9) hx hb dX5_move_0 (by decide) ?_
  refine lv_iload_n hx hb dX5_move_2 rfl (lv_at hl 1 rfl) ?_
  refine lv_imul hx hb dX5_move_3 ?_
  rw [nI_9 b]
  refine lv_istore (lv' := [(4, .int (nI (9 * b))), (0, .ref (eAd E 15)), (1, .int (nI b)), (2, .int 1), (3, .int a)]) hx hb dX5_move_4 hl (by decide) rfl (fun ls hl => ?_)
  refine lv_aload_n hx hb dX5_move_6 rfl (lv_at hl 1 rfl) ?_
  refine g_get (x := .ref (eAd E 16)) F hH inX5 (hE.2.1 15 (by decide) (by decide)) (cq_mo E _) rfl 1 (by decide) (hts (.fieldLink RX5 7 "DryingKilnModel" "layersOf" "[I") (by decide +kernel)) (fun _ h => h) rfl dX5_move_7 ?_
  refine lv_iload_n hx hb dX5_move_10 rfl (lv_at hl 2 rfl) ?_
  refine g_iald (n := 6) (x := nI (eLn E b)) F hH (hE.2.1 16 (by decide) (by decide)) rfl b rfl (by omega) (by omega) (lrow_at (by omega)) dX5_move_11 ?_
  refine lv_istore (lv' := [(5, .int (nI (eLn E b))), (4, .int (nI (9 * b))), (0, .ref (eAd E 15)), (1, .int (nI b)), (2, .int 1), (3, .int a)]) hx hb dX5_move_12 hl (by decide) rfl (fun ls hl => ?_)
  refine lv_aload_n hx hb dX5_move_14 rfl (lv_at hl 2 rfl) ?_
  refine g_get (x := .ref (eAd E 20)) F hH inX5 (hE.2.1 15 (by decide) (by decide)) (cq_mo E _) rfl 15 (by decide) (hts (.fieldLink RX5 35 "DryingKilnModel" "flow" "[I") (by decide +kernel)) (fun _ h => h) rfl dX5_move_15 ?_
  refine lv_iconst (v := 0) hx hb dX5_move_18 (by decide) ?_
  refine lv_iload_n hx hb dX5_move_19 rfl (lv_at hl 4 rfl) ?_
  refine lv_if_eq (tgt := 45) hx hb dX5_move_20 (by decide) (fun c1 => ?_) (fun c1 => ?_)
  · skip
    exact absurd c1 (by decide)
  · skip
    refine lv_aload_n hx hb dX5_move_23 rfl (lv_at hl 2 rfl) ?_
    refine g_get (x := .ref (eAd E 17)) F hH inX5 (hE.2.1 15 (by decide) (by decide)) (cq_mo E _) rfl 2 (by decide) (hts (.fieldLink RX5 13 "DryingKilnModel" "cells" "[I") (by decide +kernel)) (fun _ h => h) rfl dX5_move_24 ?_
    refine lv_iload hx hb dX5_move_27 (lv_at hl 1 rfl) ?_
    refine g_iald (n := 54) (x := mrow v b 0) F hH (hE.2.1 17 (by decide) (by decide)) rfl (9 * b) rfl (by omega) (by omega) rfl dX5_move_29 ?_
    refine lv_iload_n hx hb dX5_move_30 rfl (lv_at hl 5 rfl) ?_
    refine lv_isub hx hb dX5_move_31 ?_
    refine lv_aload_n hx hb dX5_move_32 rfl (lv_at hl 2 rfl) ?_
    refine g_get (x := .int (v 15 6)) F hH inX5 (hE.2.1 15 (by decide) (by decide)) (cq_mo E _) rfl 6 (by decide) (hts (.fieldLink RX5 22 "DryingKilnModel" "surfaceNow" "I") (by decide +kernel)) (fun _ h => h) rfl dX5_move_33 ?_
    refine lv_imul hx hb dX5_move_36 ?_
    refine lv_sipush (v := 1000) hx hb dX5_move_37 (by decide) ?_
    refine lv_idiv hx hb dX5_move_40 (by decide) ?_
    refine lv_ineg hx hb dX5_move_41 ?_
    refine lv_goto (tgt := 46) hx hb dX5_move_42 (by decide) ?_
    refine g_iast (n := 10) F hH (hE.2.1 20 (by decide) (by decide)) (fun _ => rfl) 0 rfl (by omega) (by omega) dX5_move_46 (fun H locs hH => ?_)
    refine lv_aload_n hx hb dX5_move_47 rfl (lv_at hl 2 rfl) ?_
    refine g_get (x := .ref (eAd E 20)) F hH inX5 (hE.2.1 15 (by decide) (by decide)) (cq_mo E _) rfl 15 (by decide) (hts (.fieldLink RX5 35 "DryingKilnModel" "flow" "[I") (by decide +kernel)) (fun _ h => h) rfl dX5_move_48 ?_
    refine lv_iload hx hb dX5_move_51 (lv_at hl 0 rfl) ?_
    refine lv_iload_n hx hb dX5_move_53 rfl (lv_at hl 4 rfl) ?_
    refine lv_if_eq (tgt := 83) hx hb dX5_move_54 (by decide) (fun c2 => ?_) (fun c2 => ?_)
    · skip
      exact absurd c2 (by decide)
    · skip
      refine lv_aload_n hx hb dX5_move_57 rfl (lv_at hl 2 rfl) ?_
      refine g_get (x := .ref (eAd E 17)) F hH inX5 (hE.2.1 15 (by decide) (by decide)) (cq_mo E _) rfl 2 (by decide) (hts (.fieldLink RX5 13 "DryingKilnModel" "cells" "[I") (by decide +kernel)) (fun _ h => h) rfl dX5_move_58 ?_
      refine lv_iload hx hb dX5_move_61 (lv_at hl 1 rfl) ?_
      refine lv_iload hx hb dX5_move_63 (lv_at hl 0 rfl) ?_
      refine lv_iadd hx hb dX5_move_65 ?_
      rw [nI_add (9 * b) (eLn E b)]
      refine lv_iconst (v := 1) hx hb dX5_move_66 (by decide) ?_
      refine lv_isub hx hb dX5_move_67 ?_
      rw [show (nI (9 * b + (eLn E b))) - 1 = nI (9 * b + (eLn E b - 1)) from (by rw [nI_m1 (by omega)]; congr 1; omega)]
      refine g_iald (n := 54) (x := mrow v b (eLn E b - 1)) F hH (hE.2.1 17 (by decide) (by decide)) rfl (9 * b + (eLn E b - 1)) rfl (by omega) (by omega) rfl dX5_move_68 ?_
      refine lv_iload_n hx hb dX5_move_69 rfl (lv_at hl 5 rfl) ?_
      refine lv_isub hx hb dX5_move_70 ?_
      refine lv_aload_n hx hb dX5_move_71 rfl (lv_at hl 2 rfl) ?_
      refine g_get (x := .int ((st v 20 0 (-((((mrow v b 0) - a) * (v 15 6)) / 1000))) 15 6)) F hH inX5 (hE.2.1 15 (by decide) (by decide)) (cq_mo E _) rfl 6 (by decide) (hts (.fieldLink RX5 22 "DryingKilnModel" "surfaceNow" "I") (by decide +kernel)) (fun _ h => h) rfl dX5_move_72 ?_
      rw [show (st v 20 0 (-((((mrow v b 0) - a) * (v 15 6)) / 1000))) 15 6 = v 15 6 by rw [st_ne _ _ _ (by decide)]]
      refine lv_imul hx hb dX5_move_75 ?_
      refine lv_sipush (v := 1000) hx hb dX5_move_76 (by decide) ?_
      refine lv_idiv hx hb dX5_move_79 (by decide) ?_
      refine lv_goto (tgt := 84) hx hb dX5_move_80 (by decide) ?_
      refine g_iast (n := 10) F hH (hE.2.1 20 (by decide) (by decide)) (fun _ => rfl) (eLn E b) rfl (by omega) (by omega) dX5_move_84 (fun H locs hH => ?_)
      rw [show st (st v 20 0 (-((((mrow v b 0) - a) * (v 15 6)) / 1000))) 20 (eLn E b) ((((mrow v b (eLn E b - 1)) - a) * (v 15 6)) / 1000) = va_up v 20 (mfl (mrow v b) (v 20) (eLn E b) (v 15 5) (mtop v b a) (mbot E v b a) 0) from mfl_init v (mrow v b) (by omega) (v 15 5) (mtop v b a) (mbot E v b a) rfl] at hH
      refine lv_iconst (v := 1) hx hb dX5_move_85 (by decide) ?_
      refine lv_istore (lv' := [(6, .int 1), (5, .int (nI (eLn E b))), (4, .int (nI (9 * b))), (0, .ref (eAd E 15)), (1, .int (nI b)), (2, .int 1), (3, .int a)]) hx hb dX5_move_86 hl (by decide) rfl (fun ls hl => ?_)
      have loop88 : ∀ (n t : Nat), t + n = eLn E b - 1 → ∀ (H : Heap) (locs : List Loc) (ls : Array Slot), HS E s.heap (va_up v 20 (mfl (mrow v b) (v 20) (eLn E b) (v 15 5) (mtop v b a) (mbot E v b a) t)) H locs → lv_has ls 7 [(0, .ref (eAd E 15)), (1, .int (nI b)), (2, .int 1), (3, .int a), (4, .int (nI (9 * b))), (5, .int (nI (eLn E b))), (6, .int (nI (t + 1)))] → W p l e ({ frames := 0, cells := 0, slots := 0, locals := 0 } : Room) s m ([.ref (eAd E 15), .int (nI b), .int 1, .int a] : List Value).toArray below meth c H locs 0 0 (Zi below E ([.ref (eAd E 15), .int (nI b), .int 1, .int a] : List Value).toArray s ((mbot E v b a) - -(mtop v b a)) (mmv E b (mtop v b a) (mbot E v b a) v)) (F0 m 88 ls []) := by
        intro n
        induction n with
        | zero =>
          intro t ht H locs ls hH hl
          obtain rfl : eLn E b - 1 = t := by omega
          refine lv_iload hx hb dX5_move_88 (lv_at hl 6 rfl) ?_
          refine lv_iload hx hb dX5_move_90 (lv_at hl 5 rfl) ?_
          refine lv_icmp_ge (tgt := 140) hx hb dX5_move_92 (by decide) (fun c3 => ?_) (fun c3 => ?_)
          · skip
            refine lv_iconst (v := 0) hx hb dX5_move_140 (by decide) ?_
            refine lv_istore (lv' := [(6, .int 0), (0, .ref (eAd E 15)), (1, .int (nI b)), (2, .int 1), (3, .int a), (4, .int (nI (9 * b))), (5, .int (nI (eLn E b)))]) hx hb dX5_move_141 hl (by decide) rfl (fun ls hl => ?_)
            have loop143 : ∀ (n t : Nat), t + n = eLn E b → ∀ (H : Heap) (locs : List Loc) (ls : Array Slot), HS E s.heap (va_up (va_up v 20 (mfl (mrow v b) (v 20) (eLn E b) (v 15 5) (mtop v b a) (mbot E v b a) (eLn E b - 1))) 17 (mcp (v 17) b (eLn E b) (v 15 5) (mtop v b a) (mbot E v b a) t)) H locs → lv_has ls 7 [(0, .ref (eAd E 15)), (1, .int (nI b)), (2, .int 1), (3, .int a), (4, .int (nI (9 * b))), (5, .int (nI (eLn E b))), (6, .int (nI t))] → W p l e ({ frames := 0, cells := 0, slots := 0, locals := 0 } : Room) s m ([.ref (eAd E 15), .int (nI b), .int 1, .int a] : List Value).toArray below meth c H locs 0 0 (Zi below E ([.ref (eAd E 15), .int (nI b), .int 1, .int a] : List Value).toArray s ((mbot E v b a) - -(mtop v b a)) (mmv E b (mtop v b a) (mbot E v b a) v)) (F0 m 143 ls []) := by
              intro n
              induction n with
              | zero =>
                intro t ht H locs ls hH hl
                obtain rfl : eLn E b = t := by omega
                refine lv_iload hx hb dX5_move_143 (lv_at hl 6 rfl) ?_
                refine lv_iload hx hb dX5_move_145 (lv_at hl 5 rfl) ?_
                refine lv_icmp_ge (tgt := 186) hx hb dX5_move_147 (by decide) (fun c4 => ?_) (fun c4 => ?_)
                · skip
                  refine lv_aload_n hx hb dX5_move_186 rfl (lv_at hl 0 rfl) ?_
                  refine g_get (x := .ref (eAd E 20)) F hH inX5 (hE.2.1 15 (by decide) (by decide)) (cq_mo E _) rfl 15 (by decide) (hts (.fieldLink RX5 35 "DryingKilnModel" "flow" "[I") (by decide +kernel)) (fun _ h => h) rfl dX5_move_187 ?_
                  refine lv_iload hx hb dX5_move_190 (lv_at hl 5 rfl) ?_
                  refine g_iald (n := 10) (x := (mbot E v b a)) F hH (hE.2.1 20 (by decide) (by decide)) rfl (eLn E b) rfl (by omega) (by omega) (mfl_n _ _ _ _ _ _ _) dX5_move_192 ?_
                  refine lv_aload_n hx hb dX5_move_193 rfl (lv_at hl 0 rfl) ?_
                  refine g_get (x := .ref (eAd E 20)) F hH inX5 (hE.2.1 15 (by decide) (by decide)) (cq_mo E _) rfl 15 (by decide) (hts (.fieldLink RX5 35 "DryingKilnModel" "flow" "[I") (by decide +kernel)) (fun _ h => h) rfl dX5_move_194 ?_
                  refine lv_iconst (v := 0) hx hb dX5_move_197 (by decide) ?_
                  refine g_iald (n := 10) (x := -(mtop v b a)) F hH (hE.2.1 20 (by decide) (by decide)) rfl 0 rfl (by omega) (by omega) (mfl_ent _ _ (by omega) _ _ _) dX5_move_198 ?_
                  refine lv_isub hx hb dX5_move_199 ?_
                  exact g_iret F hr hlk hH rfl rfl dX5_move_200
                · skip
                  exact absurd (nI_le (Nat.le_refl _) (by omega)) c4
              | succ n ih =>
                intro t ht H locs ls hH hl
                have htN : t < eLn E b := by omega
                refine lv_iload hx hb dX5_move_143 (lv_at hl 6 rfl) ?_
                refine lv_iload hx hb dX5_move_145 (lv_at hl 5 rfl) ?_
                refine lv_icmp_ge (tgt := 186) hx hb dX5_move_147 (by decide) (fun c5 => ?_) (fun c5 => ?_)
                · skip
                  exact absurd c5 (nI_ge htN (by omega))
                · skip
                  refine lv_aload_n hx hb dX5_move_150 rfl (lv_at hl 0 rfl) ?_
                  refine g_get (x := .ref (eAd E 17)) F hH inX5 (hE.2.1 15 (by decide) (by decide)) (cq_mo E _) rfl 2 (by decide) (hts (.fieldLink RX5 13 "DryingKilnModel" "cells" "[I") (by decide +kernel)) (fun _ h => h) rfl dX5_move_151 ?_
                  refine lv_iload hx hb dX5_move_154 (lv_at hl 4 rfl) ?_
                  refine lv_iload hx hb dX5_move_156 (lv_at hl 6 rfl) ?_
                  refine lv_iadd hx hb dX5_move_158 ?_
                  rw [nI_add (9 * b) t]
                  refine lv_dup2_11 hx hb dX5_move_159 rfl rfl ?_
                  refine g_iald (n := 54) (x := v 17 (9 * b + t)) F hH (hE.2.1 17 (by decide) (by decide)) rfl (9 * b + t) rfl (by omega) (by omega) (mcp_get _ _ _ _ _ _ _) dX5_move_160 ?_
                  refine lv_aload_n hx hb dX5_move_161 rfl (lv_at hl 0 rfl) ?_
                  refine g_get (x := .ref (eAd E 20)) F hH inX5 (hE.2.1 15 (by decide) (by decide)) (cq_mo E _) rfl 15 (by decide) (hts (.fieldLink RX5 35 "DryingKilnModel" "flow" "[I") (by decide +kernel)) (fun _ h => h) rfl dX5_move_162 ?_
                  refine lv_iload hx hb dX5_move_165 (lv_at hl 6 rfl) ?_
                  refine g_iald (n := 10) (x := ent (mrow v b) (eLn E b) (v 15 5) (mtop v b a) (mbot E v b a) t) F hH (hE.2.1 20 (by decide) (by decide)) rfl t rfl (by omega) (by omega) (mfl_ent _ _ htN _ _ _) dX5_move_167 ?_
                  refine lv_aload_n hx hb dX5_move_168 rfl (lv_at hl 0 rfl) ?_
                  refine g_get (x := .ref (eAd E 20)) F hH inX5 (hE.2.1 15 (by decide) (by decide)) (cq_mo E _) rfl 15 (by decide) (hts (.fieldLink RX5 35 "DryingKilnModel" "flow" "[I") (by decide +kernel)) (fun _ h => h) rfl dX5_move_169 ?_
                  refine lv_iload hx hb dX5_move_172 (lv_at hl 6 rfl) ?_
                  refine lv_iconst (v := 1) hx hb dX5_move_174 (by decide) ?_
                  refine lv_iadd hx hb dX5_move_175 ?_
                  rw [nI_1 t]
                  refine g_iald (n := 10) (x := lea (mrow v b) (eLn E b) (v 15 5) (mbot E v b a) t) F hH (hE.2.1 20 (by decide) (by decide)) rfl (t + 1) rfl (by omega) (by omega) (mfl_lea _ _ htN _ (mtop v b a) _) dX5_move_176 ?_
                  refine lv_isub hx hb dX5_move_177 ?_
                  refine lv_iadd hx hb dX5_move_178 ?_
                  refine g_iast (n := 54) F hH (hE.2.1 17 (by decide) (by decide)) (fun _ => rfl) (9 * b + t) rfl (by omega) (by omega) dX5_move_179 (fun H locs hH => ?_)
                  rw [show st (va_up (va_up v 20 (mfl (mrow v b) (v 20) (eLn E b) (v 15 5) (mtop v b a) (mbot E v b a) (eLn E b - 1))) 17 (mcp (v 17) b (eLn E b) (v 15 5) (mtop v b a) (mbot E v b a) t)) 17 (9 * b + t) ((v 17 (9 * b + t)) + ((ent (mrow v b) (eLn E b) (v 15 5) (mtop v b a) (mbot E v b a) t) - (lea (mrow v b) (eLn E b) (v 15 5) (mbot E v b a) t))) = va_up (va_up v 20 (mfl (mrow v b) (v 20) (eLn E b) (v 15 5) (mtop v b a) (mbot E v b a) (eLn E b - 1))) 17 (mcp (v 17) b (eLn E b) (v 15 5) (mtop v b a) (mbot E v b a) (t + 1)) from mcp_step v _ b _ _ _ _ t rfl] at hH
                  refine lv_iinc (v := nI (t + 1)) (lv' := [(6, .int (nI (t + 1))), (0, .ref (eAd E 15)), (1, .int (nI b)), (2, .int 1), (3, .int a), (4, .int (nI (9 * b))), (5, .int (nI (eLn E b)))]) hx hb dX5_move_180 hl (k := 6) rfl (nI_1 _) (by decide) rfl (fun ls hl => ?_)
                  refine lv_goto (tgt := 143) hx hb dX5_move_183 (by decide) ?_
                  exact ih (t + 1) (by omega) _ _ ls (by first | exact hH | (simp only [c1, c2, c3, c5, if_true, if_false, ↓reduceIte]; exact hH)) (by first | exact lv_sub hl [1, 2, 3, 4, 5, 6, 0] rfl | (have h := lv_sub hl [1, 2, 3, 4, 5, 6, 0] rfl; simp only [c1, c2, c3, c5, if_true, if_false, ↓reduceIte]; exact h))
            exact loop143 (eLn E b) 0 (Nat.zero_add _) _ _ ls (by rw [mcp_zero, show va_up (va_up v 20 (mfl (mrow v b) (v 20) (eLn E b) (v 15 5) (mtop v b a) (mbot E v b a) (eLn E b - 1))) 17 (v 17) = va_up v 20 (mfl (mrow v b) (v 20) (eLn E b) (v 15 5) (mtop v b a) (mbot E v b a) (eLn E b - 1)) from up_self _ 17]; exact hH) (lv_sub hl [1, 2, 3, 4, 5, 6, 0] rfl)
          · skip
            exact absurd (nI_le (by omega) (by omega)) c3
        | succ n ih =>
          intro t ht H locs ls hH hl
          have htN : t < eLn E b - 1 := by omega
          refine lv_iload hx hb dX5_move_88 (lv_at hl 6 rfl) ?_
          refine lv_iload hx hb dX5_move_90 (lv_at hl 5 rfl) ?_
          refine lv_icmp_ge (tgt := 140) hx hb dX5_move_92 (by decide) (fun c6 => ?_) (fun c6 => ?_)
          · skip
            exact absurd c6 (nI_ge (by omega) (by omega))
          · skip
            refine lv_aload_n hx hb dX5_move_95 rfl (lv_at hl 0 rfl) ?_
            refine g_get (x := .ref (eAd E 20)) F hH inX5 (hE.2.1 15 (by decide) (by decide)) (cq_mo E _) rfl 15 (by decide) (hts (.fieldLink RX5 35 "DryingKilnModel" "flow" "[I") (by decide +kernel)) (fun _ h => h) rfl dX5_move_96 ?_
            refine lv_iload hx hb dX5_move_99 (lv_at hl 6 rfl) ?_
            refine lv_aload_n hx hb dX5_move_101 rfl (lv_at hl 0 rfl) ?_
            refine g_get (x := .ref (eAd E 17)) F hH inX5 (hE.2.1 15 (by decide) (by decide)) (cq_mo E _) rfl 2 (by decide) (hts (.fieldLink RX5 13 "DryingKilnModel" "cells" "[I") (by decide +kernel)) (fun _ h => h) rfl dX5_move_102 ?_
            refine lv_iload hx hb dX5_move_105 (lv_at hl 4 rfl) ?_
            refine lv_iload hx hb dX5_move_107 (lv_at hl 6 rfl) ?_
            refine lv_iadd hx hb dX5_move_109 ?_
            rw [nI_add (9 * b) (t + 1)]
            refine lv_iconst (v := 1) hx hb dX5_move_110 (by decide) ?_
            refine lv_isub hx hb dX5_move_111 ?_
            rw [show (nI (9 * b + (t + 1))) - 1 = nI (9 * b + t) from nI_pred (9 * b + t)]
            refine g_iald (n := 54) (x := mrow v b t) F hH (hE.2.1 17 (by decide) (by decide)) rfl (9 * b + t) rfl (by omega) (by omega) rfl dX5_move_112 ?_
            refine lv_aload_n hx hb dX5_move_113 rfl (lv_at hl 0 rfl) ?_
            refine g_get (x := .ref (eAd E 17)) F hH inX5 (hE.2.1 15 (by decide) (by decide)) (cq_mo E _) rfl 2 (by decide) (hts (.fieldLink RX5 13 "DryingKilnModel" "cells" "[I") (by decide +kernel)) (fun _ h => h) rfl dX5_move_114 ?_
            refine lv_iload hx hb dX5_move_117 (lv_at hl 4 rfl) ?_
            refine lv_iload hx hb dX5_move_119 (lv_at hl 6 rfl) ?_
            refine lv_iadd hx hb dX5_move_121 ?_
            rw [nI_add (9 * b) (t + 1)]
            refine g_iald (n := 54) (x := mrow v b (t + 1)) F hH (hE.2.1 17 (by decide) (by decide)) rfl (9 * b + (t + 1)) rfl (by omega) (by omega) rfl dX5_move_122 ?_
            refine lv_isub hx hb dX5_move_123 ?_
            refine lv_aload_n hx hb dX5_move_124 rfl (lv_at hl 0 rfl) ?_
            refine g_get (x := .int ((va_up v 20 (mfl (mrow v b) (v 20) (eLn E b) (v 15 5) (mtop v b a) (mbot E v b a) t)) 15 5)) F hH inX5 (hE.2.1 15 (by decide) (by decide)) (cq_mo E _) rfl 5 (by decide) (hts (.fieldLink RX5 56 "DryingKilnModel" "diffusionNow" "I") (by decide +kernel)) (fun _ h => h) rfl dX5_move_125 ?_
            rw [show (va_up v 20 (mfl (mrow v b) (v 20) (eLn E b) (v 15 5) (mtop v b a) (mbot E v b a) t)) 15 5 = v 15 5 by rw [up_ne _ _ (by decide)]]
            refine lv_imul hx hb dX5_move_128 ?_
            refine lv_sipush (v := 1000) hx hb dX5_move_129 (by decide) ?_
            refine lv_idiv hx hb dX5_move_132 (by decide) ?_
            refine g_iast (n := 10) F hH (hE.2.1 20 (by decide) (by decide)) (fun _ => rfl) (t + 1) rfl (by omega) (by omega) dX5_move_133 (fun H locs hH => ?_)
            rw [show st (va_up v 20 (mfl (mrow v b) (v 20) (eLn E b) (v 15 5) (mtop v b a) (mbot E v b a) t)) 20 (t + 1) ((((mrow v b t) - (mrow v b (t + 1))) * (v 15 5)) / 1000) = va_up v 20 (mfl (mrow v b) (v 20) (eLn E b) (v 15 5) (mtop v b a) (mbot E v b a) (t + 1)) from mfl_step v (mrow v b) (by omega) (v 15 5) (mtop v b a) (mbot E v b a) rfl] at hH
            refine lv_iinc (v := nI (t + 1 + 1)) (lv' := [(6, .int (nI (t + 1 + 1))), (0, .ref (eAd E 15)), (1, .int (nI b)), (2, .int 1), (3, .int a), (4, .int (nI (9 * b))), (5, .int (nI (eLn E b)))]) hx hb dX5_move_134 hl (k := 6) rfl (nI_1 _) (by decide) rfl (fun ls hl => ?_)
            refine lv_goto (tgt := 88) hx hb dX5_move_137 (by decide) ?_
            exact ih (t + 1) (by omega) _ _ ls (by first | exact hH | (simp only [c1, c2, c6, if_true, if_false, ↓reduceIte]; exact hH)) (by first | exact lv_sub hl [1, 2, 3, 4, 5, 6, 0] rfl | (have h := lv_sub hl [1, 2, 3, 4, 5, 6, 0] rfl; simp only [c1, c2, c6, if_true, if_false, ↓reduceIte]; exact h))
      exact loop88 (eLn E b - 1) 0 (Nat.zero_add _) _ _ ls hH (lv_sub hl [3, 4, 5, 6, 2, 1, 0] rfl)

set_option maxHeartbeats 4000000 in
set_option maxRecDepth 100000 in
theorem c_X5_move_0 (l : Launch) (E : Ev) (hE : EO E) (v : Mem) (b : Nat) (a : Int32) (hb : b < eNb E 3) : Ci l yX5_move wsX5_move ({ frames := 0, cells := 0, slots := 0, locals := 0 } : Room) E [.ref (eAd E 15), .int (nI b), .int 0, .int a] v (0 - -0) (mmv E b 0 0 v) := by
  refine Ci.of (cc := cX5_move) (maxL := 7) (ret := (some .int)) (own := RX5) (by decide) rfl rfl (Nat.le_of_ble_eq_true rfl) ?_
  intro p e s m below meth c F hr hlk ls hl hH
  obtain ⟨hx, hb, hml, hown, hts⟩ := id F.1
  have hl : lv_has ls 7 [(0, .ref (eAd E 15)), (1, .int (nI b)), (2, .int 0), (3, .int a)] := hl
  have inX5 : ∀ w ∈ wsX50, w ∈ wsX5_move := fun w h => List.mem_cons_of_mem _ (List.mem_append_right _ h)
  have hnb := hE.2.2.2.2.1 3 (by decide)
  have hm4 := hE.2.2.2.2.2.2
  have hln := hE.2.2.2.2.2.1 b (by omega)
  refine lv_bipush (v := 9) hx hb dX5_move_0 (by decide) ?_
  refine lv_iload_n hx hb dX5_move_2 rfl (lv_at hl 1 rfl) ?_
  refine lv_imul hx hb dX5_move_3 ?_
  rw [nI_9 b]
  refine lv_istore (lv' := [(4, .int (nI (9 * b))), (0, .ref (eAd E 15)), (1, .int (nI b)), (2, .int 0), (3, .int a)]) hx hb dX5_move_4 hl (by decide) rfl (fun ls hl => ?_)
  refine lv_aload_n hx hb dX5_move_6 rfl (lv_at hl 1 rfl) ?_
  refine g_get (x := .ref (eAd E 16)) F hH inX5 (hE.2.1 15 (by decide) (by decide)) (cq_mo E _) rfl 1 (by decide) (hts (.fieldLink RX5 7 "DryingKilnModel" "layersOf" "[I") (by decide +kernel)) (fun _ h => h) rfl dX5_move_7 ?_
  refine lv_iload_n hx hb dX5_move_10 rfl (lv_at hl 2 rfl) ?_
  refine g_iald (n := 6) (x := nI (eLn E b)) F hH (hE.2.1 16 (by decide) (by decide)) rfl b rfl (by omega) (by omega) (lrow_at (by omega)) dX5_move_11 ?_
  refine lv_istore (lv' := [(5, .int (nI (eLn E b))), (4, .int (nI (9 * b))), (0, .ref (eAd E 15)), (1, .int (nI b)), (2, .int 0), (3, .int a)]) hx hb dX5_move_12 hl (by decide) rfl (fun ls hl => ?_)
  refine lv_aload_n hx hb dX5_move_14 rfl (lv_at hl 2 rfl) ?_
  refine g_get (x := .ref (eAd E 20)) F hH inX5 (hE.2.1 15 (by decide) (by decide)) (cq_mo E _) rfl 15 (by decide) (hts (.fieldLink RX5 35 "DryingKilnModel" "flow" "[I") (by decide +kernel)) (fun _ h => h) rfl dX5_move_15 ?_
  refine lv_iconst (v := 0) hx hb dX5_move_18 (by decide) ?_
  refine lv_iload_n hx hb dX5_move_19 rfl (lv_at hl 4 rfl) ?_
  refine lv_if_eq (tgt := 45) hx hb dX5_move_20 (by decide) (fun c1 => ?_) (fun c1 => ?_)
  · skip
    refine lv_iconst (v := 0) hx hb dX5_move_45 (by decide) ?_
    refine g_iast (n := 10) F hH (hE.2.1 20 (by decide) (by decide)) (fun _ => rfl) 0 rfl (by omega) (by omega) dX5_move_46 (fun H locs hH => ?_)
    refine lv_aload_n hx hb dX5_move_47 rfl (lv_at hl 2 rfl) ?_
    refine g_get (x := .ref (eAd E 20)) F hH inX5 (hE.2.1 15 (by decide) (by decide)) (cq_mo E _) rfl 15 (by decide) (hts (.fieldLink RX5 35 "DryingKilnModel" "flow" "[I") (by decide +kernel)) (fun _ h => h) rfl dX5_move_48 ?_
    refine lv_iload hx hb dX5_move_51 (lv_at hl 0 rfl) ?_
    refine lv_iload_n hx hb dX5_move_53 rfl (lv_at hl 4 rfl) ?_
    refine lv_if_eq (tgt := 83) hx hb dX5_move_54 (by decide) (fun c2 => ?_) (fun c2 => ?_)
    · skip
      refine lv_iconst (v := 0) hx hb dX5_move_83 (by decide) ?_
      refine g_iast (n := 10) F hH (hE.2.1 20 (by decide) (by decide)) (fun _ => rfl) (eLn E b) rfl (by omega) (by omega) dX5_move_84 (fun H locs hH => ?_)
      rw [show st (st v 20 0 0) 20 (eLn E b) 0 = va_up v 20 (mfl (mrow v b) (v 20) (eLn E b) (v 15 5) 0 0 0) from mfl_init v (mrow v b) (by omega) (v 15 5) 0 0 (by decide)] at hH
      refine lv_iconst (v := 1) hx hb dX5_move_85 (by decide) ?_
      refine lv_istore (lv' := [(6, .int 1), (5, .int (nI (eLn E b))), (4, .int (nI (9 * b))), (0, .ref (eAd E 15)), (1, .int (nI b)), (2, .int 0), (3, .int a)]) hx hb dX5_move_86 hl (by decide) rfl (fun ls hl => ?_)
      have loop88 : ∀ (n t : Nat), t + n = eLn E b - 1 → ∀ (H : Heap) (locs : List Loc) (ls : Array Slot), HS E s.heap (va_up v 20 (mfl (mrow v b) (v 20) (eLn E b) (v 15 5) 0 0 t)) H locs → lv_has ls 7 [(0, .ref (eAd E 15)), (1, .int (nI b)), (2, .int 0), (3, .int a), (4, .int (nI (9 * b))), (5, .int (nI (eLn E b))), (6, .int (nI (t + 1)))] → W p l e ({ frames := 0, cells := 0, slots := 0, locals := 0 } : Room) s m ([.ref (eAd E 15), .int (nI b), .int 0, .int a] : List Value).toArray below meth c H locs 0 0 (Zi below E ([.ref (eAd E 15), .int (nI b), .int 0, .int a] : List Value).toArray s (0 - -0) (mmv E b 0 0 v)) (F0 m 88 ls []) := by
        intro n
        induction n with
        | zero =>
          intro t ht H locs ls hH hl
          obtain rfl : eLn E b - 1 = t := by omega
          refine lv_iload hx hb dX5_move_88 (lv_at hl 6 rfl) ?_
          refine lv_iload hx hb dX5_move_90 (lv_at hl 5 rfl) ?_
          refine lv_icmp_ge (tgt := 140) hx hb dX5_move_92 (by decide) (fun c3 => ?_) (fun c3 => ?_)
          · skip
            refine lv_iconst (v := 0) hx hb dX5_move_140 (by decide) ?_
            refine lv_istore (lv' := [(6, .int 0), (0, .ref (eAd E 15)), (1, .int (nI b)), (2, .int 0), (3, .int a), (4, .int (nI (9 * b))), (5, .int (nI (eLn E b)))]) hx hb dX5_move_141 hl (by decide) rfl (fun ls hl => ?_)
            have loop143 : ∀ (n t : Nat), t + n = eLn E b → ∀ (H : Heap) (locs : List Loc) (ls : Array Slot), HS E s.heap (va_up (va_up v 20 (mfl (mrow v b) (v 20) (eLn E b) (v 15 5) 0 0 (eLn E b - 1))) 17 (mcp (v 17) b (eLn E b) (v 15 5) 0 0 t)) H locs → lv_has ls 7 [(0, .ref (eAd E 15)), (1, .int (nI b)), (2, .int 0), (3, .int a), (4, .int (nI (9 * b))), (5, .int (nI (eLn E b))), (6, .int (nI t))] → W p l e ({ frames := 0, cells := 0, slots := 0, locals := 0 } : Room) s m ([.ref (eAd E 15), .int (nI b), .int 0, .int a] : List Value).toArray below meth c H locs 0 0 (Zi below E ([.ref (eAd E 15), .int (nI b), .int 0, .int a] : List Value).toArray s (0 - -0) (mmv E b 0 0 v)) (F0 m 143 ls []) := by
              intro n
              induction n with
              | zero =>
                intro t ht H locs ls hH hl
                obtain rfl : eLn E b = t := by omega
                refine lv_iload hx hb dX5_move_143 (lv_at hl 6 rfl) ?_
                refine lv_iload hx hb dX5_move_145 (lv_at hl 5 rfl) ?_
                refine lv_icmp_ge (tgt := 186) hx hb dX5_move_147 (by decide) (fun c4 => ?_) (fun c4 => ?_)
                · skip
                  refine lv_aload_n hx hb dX5_move_186 rfl (lv_at hl 0 rfl) ?_
                  refine g_get (x := .ref (eAd E 20)) F hH inX5 (hE.2.1 15 (by decide) (by decide)) (cq_mo E _) rfl 15 (by decide) (hts (.fieldLink RX5 35 "DryingKilnModel" "flow" "[I") (by decide +kernel)) (fun _ h => h) rfl dX5_move_187 ?_
                  refine lv_iload hx hb dX5_move_190 (lv_at hl 5 rfl) ?_
                  refine g_iald (n := 10) (x := 0) F hH (hE.2.1 20 (by decide) (by decide)) rfl (eLn E b) rfl (by omega) (by omega) (mfl_n _ _ _ _ _ _ _) dX5_move_192 ?_
                  refine lv_aload_n hx hb dX5_move_193 rfl (lv_at hl 0 rfl) ?_
                  refine g_get (x := .ref (eAd E 20)) F hH inX5 (hE.2.1 15 (by decide) (by decide)) (cq_mo E _) rfl 15 (by decide) (hts (.fieldLink RX5 35 "DryingKilnModel" "flow" "[I") (by decide +kernel)) (fun _ h => h) rfl dX5_move_194 ?_
                  refine lv_iconst (v := 0) hx hb dX5_move_197 (by decide) ?_
                  refine g_iald (n := 10) (x := -0) F hH (hE.2.1 20 (by decide) (by decide)) rfl 0 rfl (by omega) (by omega) (mfl_ent _ _ (by omega) _ _ _) dX5_move_198 ?_
                  refine lv_isub hx hb dX5_move_199 ?_
                  exact g_iret F hr hlk hH rfl rfl dX5_move_200
                · skip
                  exact absurd (nI_le (Nat.le_refl _) (by omega)) c4
              | succ n ih =>
                intro t ht H locs ls hH hl
                have htN : t < eLn E b := by omega
                refine lv_iload hx hb dX5_move_143 (lv_at hl 6 rfl) ?_
                refine lv_iload hx hb dX5_move_145 (lv_at hl 5 rfl) ?_
                refine lv_icmp_ge (tgt := 186) hx hb dX5_move_147 (by decide) (fun c5 => ?_) (fun c5 => ?_)
                · skip
                  exact absurd c5 (nI_ge htN (by omega))
                · skip
                  refine lv_aload_n hx hb dX5_move_150 rfl (lv_at hl 0 rfl) ?_
                  refine g_get (x := .ref (eAd E 17)) F hH inX5 (hE.2.1 15 (by decide) (by decide)) (cq_mo E _) rfl 2 (by decide) (hts (.fieldLink RX5 13 "DryingKilnModel" "cells" "[I") (by decide +kernel)) (fun _ h => h) rfl dX5_move_151 ?_
                  refine lv_iload hx hb dX5_move_154 (lv_at hl 4 rfl) ?_
                  refine lv_iload hx hb dX5_move_156 (lv_at hl 6 rfl) ?_
                  refine lv_iadd hx hb dX5_move_158 ?_
                  rw [nI_add (9 * b) t]
                  refine lv_dup2_11 hx hb dX5_move_159 rfl rfl ?_
                  refine g_iald (n := 54) (x := v 17 (9 * b + t)) F hH (hE.2.1 17 (by decide) (by decide)) rfl (9 * b + t) rfl (by omega) (by omega) (mcp_get _ _ _ _ _ _ _) dX5_move_160 ?_
                  refine lv_aload_n hx hb dX5_move_161 rfl (lv_at hl 0 rfl) ?_
                  refine g_get (x := .ref (eAd E 20)) F hH inX5 (hE.2.1 15 (by decide) (by decide)) (cq_mo E _) rfl 15 (by decide) (hts (.fieldLink RX5 35 "DryingKilnModel" "flow" "[I") (by decide +kernel)) (fun _ h => h) rfl dX5_move_162 ?_
                  refine lv_iload hx hb dX5_move_165 (lv_at hl 6 rfl) ?_
                  refine g_iald (n := 10) (x := ent (mrow v b) (eLn E b) (v 15 5) 0 0 t) F hH (hE.2.1 20 (by decide) (by decide)) rfl t rfl (by omega) (by omega) (mfl_ent _ _ htN _ _ _) dX5_move_167 ?_
                  refine lv_aload_n hx hb dX5_move_168 rfl (lv_at hl 0 rfl) ?_
                  refine g_get (x := .ref (eAd E 20)) F hH inX5 (hE.2.1 15 (by decide) (by decide)) (cq_mo E _) rfl 15 (by decide) (hts (.fieldLink RX5 35 "DryingKilnModel" "flow" "[I") (by decide +kernel)) (fun _ h => h) rfl dX5_move_169 ?_
                  refine lv_iload hx hb dX5_move_172 (lv_at hl 6 rfl) ?_
                  refine lv_iconst (v := 1) hx hb dX5_move_174 (by decide) ?_
                  refine lv_iadd hx hb dX5_move_175 ?_
                  rw [nI_1 t]
                  refine g_iald (n := 10) (x := lea (mrow v b) (eLn E b) (v 15 5) 0 t) F hH (hE.2.1 20 (by decide) (by decide)) rfl (t + 1) rfl (by omega) (by omega) (mfl_lea _ _ htN _ 0 _) dX5_move_176 ?_
                  refine lv_isub hx hb dX5_move_177 ?_
                  refine lv_iadd hx hb dX5_move_178 ?_
                  refine g_iast (n := 54) F hH (hE.2.1 17 (by decide) (by decide)) (fun _ => rfl) (9 * b + t) rfl (by omega) (by omega) dX5_move_179 (fun H locs hH => ?_)
                  rw [show st (va_up (va_up v 20 (mfl (mrow v b) (v 20) (eLn E b) (v 15 5) 0 0 (eLn E b - 1))) 17 (mcp (v 17) b (eLn E b) (v 15 5) 0 0 t)) 17 (9 * b + t) ((v 17 (9 * b + t)) + ((ent (mrow v b) (eLn E b) (v 15 5) 0 0 t) - (lea (mrow v b) (eLn E b) (v 15 5) 0 t))) = va_up (va_up v 20 (mfl (mrow v b) (v 20) (eLn E b) (v 15 5) 0 0 (eLn E b - 1))) 17 (mcp (v 17) b (eLn E b) (v 15 5) 0 0 (t + 1)) from mcp_step v _ b _ _ _ _ t rfl] at hH
                  refine lv_iinc (v := nI (t + 1)) (lv' := [(6, .int (nI (t + 1))), (0, .ref (eAd E 15)), (1, .int (nI b)), (2, .int 0), (3, .int a), (4, .int (nI (9 * b))), (5, .int (nI (eLn E b)))]) hx hb dX5_move_180 hl (k := 6) rfl (nI_1 _) (by decide) rfl (fun ls hl => ?_)
                  refine lv_goto (tgt := 143) hx hb dX5_move_183 (by decide) ?_
                  exact ih (t + 1) (by omega) _ _ ls (by first | exact hH | (simp only [c1, c2, c3, c5, if_true, if_false, ↓reduceIte]; exact hH)) (by first | exact lv_sub hl [1, 2, 3, 4, 5, 6, 0] rfl | (have h := lv_sub hl [1, 2, 3, 4, 5, 6, 0] rfl; simp only [c1, c2, c3, c5, if_true, if_false, ↓reduceIte]; exact h))
            exact loop143 (eLn E b) 0 (Nat.zero_add _) _ _ ls (by rw [mcp_zero, show va_up (va_up v 20 (mfl (mrow v b) (v 20) (eLn E b) (v 15 5) 0 0 (eLn E b - 1))) 17 (v 17) = va_up v 20 (mfl (mrow v b) (v 20) (eLn E b) (v 15 5) 0 0 (eLn E b - 1)) from up_self _ 17]; exact hH) (lv_sub hl [1, 2, 3, 4, 5, 6, 0] rfl)
          · skip
            exact absurd (nI_le (by omega) (by omega)) c3
        | succ n ih =>
          intro t ht H locs ls hH hl
          have htN : t < eLn E b - 1 := by omega
          refine lv_iload hx hb dX5_move_88 (lv_at hl 6 rfl) ?_
          refine lv_iload hx hb dX5_move_90 (lv_at hl 5 rfl) ?_
          refine lv_icmp_ge (tgt := 140) hx hb dX5_move_92 (by decide) (fun c6 => ?_) (fun c6 => ?_)
          · skip
            exact absurd c6 (nI_ge (by omega) (by omega))
          · skip
            refine lv_aload_n hx hb dX5_move_95 rfl (lv_at hl 0 rfl) ?_
            refine g_get (x := .ref (eAd E 20)) F hH inX5 (hE.2.1 15 (by decide) (by decide)) (cq_mo E _) rfl 15 (by decide) (hts (.fieldLink RX5 35 "DryingKilnModel" "flow" "[I") (by decide +kernel)) (fun _ h => h) rfl dX5_move_96 ?_
            refine lv_iload hx hb dX5_move_99 (lv_at hl 6 rfl) ?_
            refine lv_aload_n hx hb dX5_move_101 rfl (lv_at hl 0 rfl) ?_
            refine g_get (x := .ref (eAd E 17)) F hH inX5 (hE.2.1 15 (by decide) (by decide)) (cq_mo E _) rfl 2 (by decide) (hts (.fieldLink RX5 13 "DryingKilnModel" "cells" "[I") (by decide +kernel)) (fun _ h => h) rfl dX5_move_102 ?_
            refine lv_iload hx hb dX5_move_105 (lv_at hl 4 rfl) ?_
            refine lv_iload hx hb dX5_move_107 (lv_at hl 6 rfl) ?_
            refine lv_iadd hx hb dX5_move_109 ?_
            rw [nI_add (9 * b) (t + 1)]
            refine lv_iconst (v := 1) hx hb dX5_move_110 (by decide) ?_
            refine lv_isub hx hb dX5_move_111 ?_
            rw [show (nI (9 * b + (t + 1))) - 1 = nI (9 * b + t) from nI_pred (9 * b + t)]
            refine g_iald (n := 54) (x := mrow v b t) F hH (hE.2.1 17 (by decide) (by decide)) rfl (9 * b + t) rfl (by omega) (by omega) rfl dX5_move_112 ?_
            refine lv_aload_n hx hb dX5_move_113 rfl (lv_at hl 0 rfl) ?_
            refine g_get (x := .ref (eAd E 17)) F hH inX5 (hE.2.1 15 (by decide) (by decide)) (cq_mo E _) rfl 2 (by decide) (hts (.fieldLink RX5 13 "DryingKilnModel" "cells" "[I") (by decide +kernel)) (fun _ h => h) rfl dX5_move_114 ?_
            refine lv_iload hx hb dX5_move_117 (lv_at hl 4 rfl) ?_
            refine lv_iload hx hb dX5_move_119 (lv_at hl 6 rfl) ?_
            refine lv_iadd hx hb dX5_move_121 ?_
            rw [nI_add (9 * b) (t + 1)]
            refine g_iald (n := 54) (x := mrow v b (t + 1)) F hH (hE.2.1 17 (by decide) (by decide)) rfl (9 * b + (t + 1)) rfl (by omega) (by omega) rfl dX5_move_122 ?_
            refine lv_isub hx hb dX5_move_123 ?_
            refine lv_aload_n hx hb dX5_move_124 rfl (lv_at hl 0 rfl) ?_
            refine g_get (x := .int ((va_up v 20 (mfl (mrow v b) (v 20) (eLn E b) (v 15 5) 0 0 t)) 15 5)) F hH inX5 (hE.2.1 15 (by decide) (by decide)) (cq_mo E _) rfl 5 (by decide) (hts (.fieldLink RX5 56 "DryingKilnModel" "diffusionNow" "I") (by decide +kernel)) (fun _ h => h) rfl dX5_move_125 ?_
            rw [show (va_up v 20 (mfl (mrow v b) (v 20) (eLn E b) (v 15 5) 0 0 t)) 15 5 = v 15 5 by rw [up_ne _ _ (by decide)]]
            refine lv_imul hx hb dX5_move_128 ?_
            refine lv_sipush (v := 1000) hx hb dX5_move_129 (by decide) ?_
            refine lv_idiv hx hb dX5_move_132 (by decide) ?_
            refine g_iast (n := 10) F hH (hE.2.1 20 (by decide) (by decide)) (fun _ => rfl) (t + 1) rfl (by omega) (by omega) dX5_move_133 (fun H locs hH => ?_)
            rw [show st (va_up v 20 (mfl (mrow v b) (v 20) (eLn E b) (v 15 5) 0 0 t)) 20 (t + 1) ((((mrow v b t) - (mrow v b (t + 1))) * (v 15 5)) / 1000) = va_up v 20 (mfl (mrow v b) (v 20) (eLn E b) (v 15 5) 0 0 (t + 1)) from mfl_step v (mrow v b) (by omega) (v 15 5) 0 0 rfl] at hH
            refine lv_iinc (v := nI (t + 1 + 1)) (lv' := [(6, .int (nI (t + 1 + 1))), (0, .ref (eAd E 15)), (1, .int (nI b)), (2, .int 0), (3, .int a), (4, .int (nI (9 * b))), (5, .int (nI (eLn E b)))]) hx hb dX5_move_134 hl (k := 6) rfl (nI_1 _) (by decide) rfl (fun ls hl => ?_)
            refine lv_goto (tgt := 88) hx hb dX5_move_137 (by decide) ?_
            exact ih (t + 1) (by omega) _ _ ls (by first | exact hH | (simp only [c1, c2, c6, if_true, if_false, ↓reduceIte]; exact hH)) (by first | exact lv_sub hl [1, 2, 3, 4, 5, 6, 0] rfl | (have h := lv_sub hl [1, 2, 3, 4, 5, 6, 0] rfl; simp only [c1, c2, c6, if_true, if_false, ↓reduceIte]; exact h))
      exact loop88 (eLn E b - 1) 0 (Nat.zero_add _) _ _ ls hH (lv_sub hl [3, 4, 5, 6, 2, 1, 0] rfl)
    · skip
      exact absurd (by decide) c2
  · skip
    exact absurd (by decide) c1

set_option maxHeartbeats 4000000 in
set_option maxRecDepth 100000 in
theorem c_X5_blow (l : Launch) (E : Ev) (hE : EO E) (v : Mem) (a : Int32) (hcap : ¬ v 15 7 = 0) : Ci l yX5_blow wsX5_blow ({ frames := 1, cells := 0, slots := 0, locals := 26 } : Room) E [.ref (eAd E 15), .int a] v (mblr E a v) (mblm E a v) := by
  refine Ci.of (cc := cX5_blow) (maxL := 6) (ret := (some .int)) (own := RX5) (by decide) rfl rfl (Nat.le_of_ble_eq_true rfl) ?_
  intro p e s m below meth c F hr hlk ls hl hH
  obtain ⟨hx, hb, hml, hown, hts⟩ := id F.1
  have hl : lv_has ls 6 [(0, .ref (eAd E 15)), (1, .int a)] := hl
  have inX5 : ∀ w ∈ wsX50, w ∈ wsX5_blow := fun w h => List.mem_cons_of_mem _ (List.mem_append_right _ h)
  have hnb := hE.2.2.2.2.1 3 (by decide)
  have hm4 := hE.2.2.2.2.2.2
  refine lv_iconst (v := 0) hx hb dX5_blow_0 (by decide) ?_
  refine lv_istore_n (lv' := [(2, .int 0), (0, .ref (eAd E 15)), (1, .int a)]) hx hb dX5_blow_1 rfl hl (by decide) rfl (fun ls hl => ?_)
  refine lv_iconst (v := 0) hx hb dX5_blow_2 (by decide) ?_
  refine lv_istore_n (lv' := [(3, .int 0), (2, .int 0), (0, .ref (eAd E 15)), (1, .int a)]) hx hb dX5_blow_3 rfl hl (by decide) rfl (fun ls hl => ?_)
  have loop4 : ∀ (n t : Nat), t + n = eNb E 3 → ∀ (H : Heap) (locs : List Loc) (ls : Array Slot), HS E s.heap ((mbp E a v t).1) H locs → lv_has ls 6 [(0, .ref (eAd E 15)), (1, .int a), (2, .int ((mbp E a v t).2)), (3, .int (nI t))] → W p l e ({ frames := 1, cells := 0, slots := 0, locals := 26 } : Room) s m ([.ref (eAd E 15), .int a] : List Value).toArray below meth c H locs 0 0 (Zi below E ([.ref (eAd E 15), .int a] : List Value).toArray s (mblr E a v) (mblm E a v)) (F0 m 4 ls []) := by
    intro n
    induction n with
    | zero =>
      intro t ht H locs ls hH hl
      obtain rfl : eNb E 3 = t := by omega
      refine lv_iload_n hx hb dX5_blow_4 rfl (lv_at hl 3 rfl) ?_
      refine lv_aload_n hx hb dX5_blow_5 rfl (lv_at hl 0 rfl) ?_
      refine g_get (x := .int (nI (eNb E 3))) F hH inX5 (hE.2.1 15 (by decide) (by decide)) (cq_mo E _) rfl 0 (by decide) (hts (.fieldLink RX5 59 "DryingKilnModel" "boards" "I") (by decide +kernel)) (fun _ h => h) rfl dX5_blow_6 ?_
      refine lv_icmp_ge (tgt := 83) hx hb dX5_blow_9 (by decide) (fun c1 => ?_) (fun c1 => ?_)
      · skip
        refine lv_iload_n hx hb dX5_blow_83 rfl (lv_at hl 2 rfl) ?_
        exact g_iret F hr hlk hH rfl rfl dX5_blow_84
      · skip
        exact absurd (nI_le (Nat.le_refl _) (by omega)) c1
    | succ n ih =>
      intro t ht H locs ls hH hl
      have htN : t < eNb E 3 := by omega
      refine lv_iload_n hx hb dX5_blow_4 rfl (lv_at hl 3 rfl) ?_
      refine lv_aload_n hx hb dX5_blow_5 rfl (lv_at hl 0 rfl) ?_
      refine g_get (x := .int (nI (eNb E 3))) F hH inX5 (hE.2.1 15 (by decide) (by decide)) (cq_mo E _) rfl 0 (by decide) (hts (.fieldLink RX5 59 "DryingKilnModel" "boards" "I") (by decide +kernel)) (fun _ h => h) rfl dX5_blow_6 ?_
      refine lv_icmp_ge (tgt := 83) hx hb dX5_blow_9 (by decide) (fun c2 => ?_) (fun c2 => ?_)
      · skip
        exact absurd c2 (nI_ge htN (by omega))
      · skip
        refine lv_aload_n hx hb dX5_blow_12 rfl (lv_at hl 0 rfl) ?_
        refine g_get (x := .int (((mbp E a v t).1) 15 10)) F hH inX5 (hE.2.1 15 (by decide) (by decide)) (cq_mo E _) rfl 10 (by decide) (hts (.fieldLink RX5 96 "DryingKilnModel" "isReversed" "Z") (by decide +kernel)) (fun _ h => h) rfl dX5_blow_13 ?_
        refine lv_if_eq (tgt := 30) hx hb dX5_blow_16 (by decide) (fun c3 => ?_) (fun c3 => ?_)
        · skip
          refine lv_iload_n hx hb dX5_blow_30 rfl (lv_at hl 3 rfl) ?_
          refine lv_istore (lv' := [(4, .int (nI t)), (0, .ref (eAd E 15)), (1, .int a), (2, .int ((mbp E a v t).2)), (3, .int (nI t))]) hx hb dX5_blow_31 hl (by decide) rfl (fun ls hl => ?_)
          refine lv_iload_n hx hb dX5_blow_33 rfl (lv_at hl 2 rfl) ?_
          refine lv_iload_n hx hb dX5_blow_34 rfl (lv_at hl 3 rfl) ?_
          refine lv_aload_n hx hb dX5_blow_35 rfl (lv_at hl 1 rfl) ?_
          refine g_get (x := .int (((mbp E a v t).1) 15 7)) F hH inX5 (hE.2.1 15 (by decide) (by decide)) (cq_mo E _) rfl 7 (by decide) (hts (.fieldLink RX5 26 "DryingKilnModel" "capacityNow" "I") (by decide +kernel)) (fun _ h => h) rfl dX5_blow_36 ?_
          refine lv_idiv hx hb dX5_blow_39 (by rw [mbp_ne E a v (by decide) (by decide) (by decide)]; exact hcap) ?_
          refine lv_iadd hx hb dX5_blow_40 ?_
          refine lv_istore (lv' := [(5, .int (a + (((mbp E a v t).2) / (((mbp E a v t).1) 15 7)))), (4, .int (nI t)), (0, .ref (eAd E 15)), (1, .int a), (2, .int ((mbp E a v t).2)), (3, .int (nI t))]) hx hb dX5_blow_41 hl (by decide) rfl (fun ls hl => ?_)
          refine lv_iload hx hb dX5_blow_43 (lv_at hl 0 rfl) ?_
          refine lv_if_ge (tgt := 52) hx hb dX5_blow_45 (by decide) (fun c4 => ?_) (fun c4 => ?_)
          · skip
            refine lv_iload hx hb dX5_blow_52 (lv_at hl 0 rfl) ?_
            refine lv_istore (lv' := [(5, .int (a + (((mbp E a v t).2) / (((mbp E a v t).1) 15 7)))), (4, .int (nI t)), (0, .ref (eAd E 15)), (1, .int a), (2, .int ((mbp E a v t).2)), (3, .int (nI t))]) hx hb dX5_blow_54 hl (by decide) rfl (fun ls hl => ?_)
            refine lv_aload_n hx hb dX5_blow_56 rfl (lv_at hl 2 rfl) ?_
            refine g_get (x := .ref (eAd E 19)) F hH inX5 (hE.2.1 15 (by decide) (by decide)) (cq_mo E _) rfl 4 (by decide) (hts (.fieldLink RX5 19 "DryingKilnModel" "airOf" "[I") (by decide +kernel)) (fun _ h => h) rfl dX5_blow_57 ?_
            refine lv_iload hx hb dX5_blow_60 (lv_at hl 1 rfl) ?_
            refine lv_iload hx hb dX5_blow_62 (lv_at hl 0 rfl) ?_
            refine g_iast (n := 6) F hH (hE.2.1 19 (by decide) (by decide)) (fun _ => rfl) t rfl (by omega) (by omega) dX5_blow_64 (fun H locs hH => ?_)
            refine lv_iload_n hx hb dX5_blow_65 rfl (lv_at hl 4 rfl) ?_
            refine lv_aload_n hx hb dX5_blow_66 rfl (lv_at hl 2 rfl) ?_
            refine lv_iload hx hb dX5_blow_67 (lv_at hl 1 rfl) ?_
            refine lv_iconst (v := 1) hx hb dX5_blow_69 (by decide) ?_
            refine lv_iload hx hb dX5_blow_70 (lv_at hl 0 rfl) ?_
            refine g_vi (As := [.int (nI t), .int 1, .int (a + (((mbp E a v t).2) / (((mbp E a v t).1) 15 7)))]) F hH (c_X5_move_1 l E hE (st ((mbp E a v t).1) 19 t (a + (((mbp E a v t).2) / (((mbp E a v t).1) 15 7)))) t (a + (((mbp E a v t).2) / (((mbp E a v t).1) 15 7))) (by first | assumption | omega | decide)) (cwV 3 hts gX5_blow_X5_move rfl rfl rfl (by decide +kernel) ⟨Nat.le_of_ble_eq_true rfl, Nat.le_of_ble_eq_true rfl⟩) (hE.2.1 15 (by decide) (by decide)) (cq_mo E _) rfl rfl hl.1 [.int ((mbp E a v t).2)] rfl (Nat.le_of_ble_eq_true rfl) dX5_blow_72 ⟨Nat.zero_le _, Nat.zero_le _⟩ (fun H locs hH => ?_)
            refine lv_iadd hx hb dX5_blow_75 ?_
            refine lv_istore_n (lv' := [(2, .int (((mbp E a v t).2) + ((mbot E (st ((mbp E a v t).1) 19 t (a + (((mbp E a v t).2) / (((mbp E a v t).1) 15 7)))) t (a + (((mbp E a v t).2) / (((mbp E a v t).1) 15 7)))) - -(mtop (st ((mbp E a v t).1) 19 t (a + (((mbp E a v t).2) / (((mbp E a v t).1) 15 7)))) t (a + (((mbp E a v t).2) / (((mbp E a v t).1) 15 7))))))), (5, .int (a + (((mbp E a v t).2) / (((mbp E a v t).1) 15 7)))), (4, .int (nI t)), (0, .ref (eAd E 15)), (1, .int a), (3, .int (nI t))]) hx hb dX5_blow_76 rfl hl (by decide) rfl (fun ls hl => ?_)
            refine lv_iinc (v := nI (t + 1)) (lv' := [(3, .int (nI (t + 1))), (2, .int (((mbp E a v t).2) + ((mbot E (st ((mbp E a v t).1) 19 t (a + (((mbp E a v t).2) / (((mbp E a v t).1) 15 7)))) t (a + (((mbp E a v t).2) / (((mbp E a v t).1) 15 7)))) - -(mtop (st ((mbp E a v t).1) 19 t (a + (((mbp E a v t).2) / (((mbp E a v t).1) 15 7)))) t (a + (((mbp E a v t).2) / (((mbp E a v t).1) 15 7))))))), (5, .int (a + (((mbp E a v t).2) / (((mbp E a v t).1) 15 7)))), (4, .int (nI t)), (0, .ref (eAd E 15)), (1, .int a)]) hx hb dX5_blow_77 hl (k := 5) rfl (nI_1 _) (by decide) rfl (fun ls hl => ?_)
            refine lv_goto (tgt := 4) hx hb dX5_blow_80 (by decide) ?_
            exact ih (t + 1) (by omega) _ _ ls (by first | exact hH | (simp only [mbp, mnum, mair, c2, c3, c4, if_true, if_false, ↓reduceIte]; exact hH)) (by first | exact lv_sub hl [4, 5, 1, 0] rfl | (have h := lv_sub hl [4, 5, 1, 0] rfl; simp only [mbp, mnum, mair, c2, c3, c4, if_true, if_false, ↓reduceIte]; exact h))
          · skip
            refine lv_iconst (v := 0) hx hb dX5_blow_48 (by decide) ?_
            refine lv_goto (tgt := 54) hx hb dX5_blow_49 (by decide) ?_
            refine lv_istore (lv' := [(5, .int 0), (4, .int (nI t)), (0, .ref (eAd E 15)), (1, .int a), (2, .int ((mbp E a v t).2)), (3, .int (nI t))]) hx hb dX5_blow_54 hl (by decide) rfl (fun ls hl => ?_)
            refine lv_aload_n hx hb dX5_blow_56 rfl (lv_at hl 2 rfl) ?_
            refine g_get (x := .ref (eAd E 19)) F hH inX5 (hE.2.1 15 (by decide) (by decide)) (cq_mo E _) rfl 4 (by decide) (hts (.fieldLink RX5 19 "DryingKilnModel" "airOf" "[I") (by decide +kernel)) (fun _ h => h) rfl dX5_blow_57 ?_
            refine lv_iload hx hb dX5_blow_60 (lv_at hl 1 rfl) ?_
            refine lv_iload hx hb dX5_blow_62 (lv_at hl 0 rfl) ?_
            refine g_iast (n := 6) F hH (hE.2.1 19 (by decide) (by decide)) (fun _ => rfl) t rfl (by omega) (by omega) dX5_blow_64 (fun H locs hH => ?_)
            refine lv_iload_n hx hb dX5_blow_65 rfl (lv_at hl 4 rfl) ?_
            refine lv_aload_n hx hb dX5_blow_66 rfl (lv_at hl 2 rfl) ?_
            refine lv_iload hx hb dX5_blow_67 (lv_at hl 1 rfl) ?_
            refine lv_iconst (v := 1) hx hb dX5_blow_69 (by decide) ?_
            refine lv_iload hx hb dX5_blow_70 (lv_at hl 0 rfl) ?_
            refine g_vi (As := [.int (nI t), .int 1, .int 0]) F hH (c_X5_move_1 l E hE (st ((mbp E a v t).1) 19 t 0) t 0 (by first | assumption | omega | decide)) (cwV 3 hts gX5_blow_X5_move rfl rfl rfl (by decide +kernel) ⟨Nat.le_of_ble_eq_true rfl, Nat.le_of_ble_eq_true rfl⟩) (hE.2.1 15 (by decide) (by decide)) (cq_mo E _) rfl rfl hl.1 [.int ((mbp E a v t).2)] rfl (Nat.le_of_ble_eq_true rfl) dX5_blow_72 ⟨Nat.zero_le _, Nat.zero_le _⟩ (fun H locs hH => ?_)
            refine lv_iadd hx hb dX5_blow_75 ?_
            refine lv_istore_n (lv' := [(2, .int (((mbp E a v t).2) + ((mbot E (st ((mbp E a v t).1) 19 t 0) t 0) - -(mtop (st ((mbp E a v t).1) 19 t 0) t 0)))), (5, .int 0), (4, .int (nI t)), (0, .ref (eAd E 15)), (1, .int a), (3, .int (nI t))]) hx hb dX5_blow_76 rfl hl (by decide) rfl (fun ls hl => ?_)
            refine lv_iinc (v := nI (t + 1)) (lv' := [(3, .int (nI (t + 1))), (2, .int (((mbp E a v t).2) + ((mbot E (st ((mbp E a v t).1) 19 t 0) t 0) - -(mtop (st ((mbp E a v t).1) 19 t 0) t 0)))), (5, .int 0), (4, .int (nI t)), (0, .ref (eAd E 15)), (1, .int a)]) hx hb dX5_blow_77 hl (k := 5) rfl (nI_1 _) (by decide) rfl (fun ls hl => ?_)
            refine lv_goto (tgt := 4) hx hb dX5_blow_80 (by decide) ?_
            exact ih (t + 1) (by omega) _ _ ls (by first | exact hH | (simp only [mbp, mnum, mair, c2, c3, c4, if_true, if_false, ↓reduceIte]; exact hH)) (by first | exact lv_sub hl [4, 5, 1, 0] rfl | (have h := lv_sub hl [4, 5, 1, 0] rfl; simp only [mbp, mnum, mair, c2, c3, c4, if_true, if_false, ↓reduceIte]; exact h))
        · skip
          refine lv_aload_n hx hb dX5_blow_19 rfl (lv_at hl 0 rfl) ?_
          refine g_get (x := .int (nI (eNb E 3))) F hH inX5 (hE.2.1 15 (by decide) (by decide)) (cq_mo E _) rfl 0 (by decide) (hts (.fieldLink RX5 59 "DryingKilnModel" "boards" "I") (by decide +kernel)) (fun _ h => h) rfl dX5_blow_20 ?_
          refine lv_iconst (v := 1) hx hb dX5_blow_23 (by decide) ?_
          refine lv_isub hx hb dX5_blow_24 ?_
          rw [show (nI (eNb E 3)) - 1 = nI (eNb E 3 - 1) from nI_m1 (by omega)]
          refine lv_iload_n hx hb dX5_blow_25 rfl (lv_at hl 3 rfl) ?_
          refine lv_isub hx hb dX5_blow_26 ?_
          rw [show (nI (eNb E 3 - 1)) - (nI t) = nI (eNb E 3 - 1 - t) from pk_sub (by omega)]
          refine lv_goto (tgt := 31) hx hb dX5_blow_27 (by decide) ?_
          refine lv_istore (lv' := [(4, .int (nI (eNb E 3 - 1 - t))), (0, .ref (eAd E 15)), (1, .int a), (2, .int ((mbp E a v t).2)), (3, .int (nI t))]) hx hb dX5_blow_31 hl (by decide) rfl (fun ls hl => ?_)
          refine lv_iload_n hx hb dX5_blow_33 rfl (lv_at hl 2 rfl) ?_
          refine lv_iload_n hx hb dX5_blow_34 rfl (lv_at hl 3 rfl) ?_
          refine lv_aload_n hx hb dX5_blow_35 rfl (lv_at hl 1 rfl) ?_
          refine g_get (x := .int (((mbp E a v t).1) 15 7)) F hH inX5 (hE.2.1 15 (by decide) (by decide)) (cq_mo E _) rfl 7 (by decide) (hts (.fieldLink RX5 26 "DryingKilnModel" "capacityNow" "I") (by decide +kernel)) (fun _ h => h) rfl dX5_blow_36 ?_
          refine lv_idiv hx hb dX5_blow_39 (by rw [mbp_ne E a v (by decide) (by decide) (by decide)]; exact hcap) ?_
          refine lv_iadd hx hb dX5_blow_40 ?_
          refine lv_istore (lv' := [(5, .int (a + (((mbp E a v t).2) / (((mbp E a v t).1) 15 7)))), (4, .int (nI (eNb E 3 - 1 - t))), (0, .ref (eAd E 15)), (1, .int a), (2, .int ((mbp E a v t).2)), (3, .int (nI t))]) hx hb dX5_blow_41 hl (by decide) rfl (fun ls hl => ?_)
          refine lv_iload hx hb dX5_blow_43 (lv_at hl 0 rfl) ?_
          refine lv_if_ge (tgt := 52) hx hb dX5_blow_45 (by decide) (fun c5 => ?_) (fun c5 => ?_)
          · skip
            refine lv_iload hx hb dX5_blow_52 (lv_at hl 0 rfl) ?_
            refine lv_istore (lv' := [(5, .int (a + (((mbp E a v t).2) / (((mbp E a v t).1) 15 7)))), (4, .int (nI (eNb E 3 - 1 - t))), (0, .ref (eAd E 15)), (1, .int a), (2, .int ((mbp E a v t).2)), (3, .int (nI t))]) hx hb dX5_blow_54 hl (by decide) rfl (fun ls hl => ?_)
            refine lv_aload_n hx hb dX5_blow_56 rfl (lv_at hl 2 rfl) ?_
            refine g_get (x := .ref (eAd E 19)) F hH inX5 (hE.2.1 15 (by decide) (by decide)) (cq_mo E _) rfl 4 (by decide) (hts (.fieldLink RX5 19 "DryingKilnModel" "airOf" "[I") (by decide +kernel)) (fun _ h => h) rfl dX5_blow_57 ?_
            refine lv_iload hx hb dX5_blow_60 (lv_at hl 1 rfl) ?_
            refine lv_iload hx hb dX5_blow_62 (lv_at hl 0 rfl) ?_
            refine g_iast (n := 6) F hH (hE.2.1 19 (by decide) (by decide)) (fun _ => rfl) (eNb E 3 - 1 - t) rfl (by omega) (by omega) dX5_blow_64 (fun H locs hH => ?_)
            refine lv_iload_n hx hb dX5_blow_65 rfl (lv_at hl 4 rfl) ?_
            refine lv_aload_n hx hb dX5_blow_66 rfl (lv_at hl 2 rfl) ?_
            refine lv_iload hx hb dX5_blow_67 (lv_at hl 1 rfl) ?_
            refine lv_iconst (v := 1) hx hb dX5_blow_69 (by decide) ?_
            refine lv_iload hx hb dX5_blow_70 (lv_at hl 0 rfl) ?_
            refine g_vi (As := [.int (nI (eNb E 3 - 1 - t)), .int 1, .int (a + (((mbp E a v t).2) / (((mbp E a v t).1) 15 7)))]) F hH (c_X5_move_1 l E hE (st ((mbp E a v t).1) 19 (eNb E 3 - 1 - t) (a + (((mbp E a v t).2) / (((mbp E a v t).1) 15 7)))) (eNb E 3 - 1 - t) (a + (((mbp E a v t).2) / (((mbp E a v t).1) 15 7))) (by first | assumption | omega | decide)) (cwV 3 hts gX5_blow_X5_move rfl rfl rfl (by decide +kernel) ⟨Nat.le_of_ble_eq_true rfl, Nat.le_of_ble_eq_true rfl⟩) (hE.2.1 15 (by decide) (by decide)) (cq_mo E _) rfl rfl hl.1 [.int ((mbp E a v t).2)] rfl (Nat.le_of_ble_eq_true rfl) dX5_blow_72 ⟨Nat.zero_le _, Nat.zero_le _⟩ (fun H locs hH => ?_)
            refine lv_iadd hx hb dX5_blow_75 ?_
            refine lv_istore_n (lv' := [(2, .int (((mbp E a v t).2) + ((mbot E (st ((mbp E a v t).1) 19 (eNb E 3 - 1 - t) (a + (((mbp E a v t).2) / (((mbp E a v t).1) 15 7)))) (eNb E 3 - 1 - t) (a + (((mbp E a v t).2) / (((mbp E a v t).1) 15 7)))) - -(mtop (st ((mbp E a v t).1) 19 (eNb E 3 - 1 - t) (a + (((mbp E a v t).2) / (((mbp E a v t).1) 15 7)))) (eNb E 3 - 1 - t) (a + (((mbp E a v t).2) / (((mbp E a v t).1) 15 7))))))), (5, .int (a + (((mbp E a v t).2) / (((mbp E a v t).1) 15 7)))), (4, .int (nI (eNb E 3 - 1 - t))), (0, .ref (eAd E 15)), (1, .int a), (3, .int (nI t))]) hx hb dX5_blow_76 rfl hl (by decide) rfl (fun ls hl => ?_)
            refine lv_iinc (v := nI (t + 1)) (lv' := [(3, .int (nI (t + 1))), (2, .int (((mbp E a v t).2) + ((mbot E (st ((mbp E a v t).1) 19 (eNb E 3 - 1 - t) (a + (((mbp E a v t).2) / (((mbp E a v t).1) 15 7)))) (eNb E 3 - 1 - t) (a + (((mbp E a v t).2) / (((mbp E a v t).1) 15 7)))) - -(mtop (st ((mbp E a v t).1) 19 (eNb E 3 - 1 - t) (a + (((mbp E a v t).2) / (((mbp E a v t).1) 15 7)))) (eNb E 3 - 1 - t) (a + (((mbp E a v t).2) / (((mbp E a v t).1) 15 7))))))), (5, .int (a + (((mbp E a v t).2) / (((mbp E a v t).1) 15 7)))), (4, .int (nI (eNb E 3 - 1 - t))), (0, .ref (eAd E 15)), (1, .int a)]) hx hb dX5_blow_77 hl (k := 5) rfl (nI_1 _) (by decide) rfl (fun ls hl => ?_)
            refine lv_goto (tgt := 4) hx hb dX5_blow_80 (by decide) ?_
            exact ih (t + 1) (by omega) _ _ ls (by first | exact hH | (simp only [mbp, mnum, mair, c2, c3, c5, if_true, if_false, ↓reduceIte]; exact hH)) (by first | exact lv_sub hl [4, 5, 1, 0] rfl | (have h := lv_sub hl [4, 5, 1, 0] rfl; simp only [mbp, mnum, mair, c2, c3, c5, if_true, if_false, ↓reduceIte]; exact h))
          · skip
            refine lv_iconst (v := 0) hx hb dX5_blow_48 (by decide) ?_
            refine lv_goto (tgt := 54) hx hb dX5_blow_49 (by decide) ?_
            refine lv_istore (lv' := [(5, .int 0), (4, .int (nI (eNb E 3 - 1 - t))), (0, .ref (eAd E 15)), (1, .int a), (2, .int ((mbp E a v t).2)), (3, .int (nI t))]) hx hb dX5_blow_54 hl (by decide) rfl (fun ls hl => ?_)
            refine lv_aload_n hx hb dX5_blow_56 rfl (lv_at hl 2 rfl) ?_
            refine g_get (x := .ref (eAd E 19)) F hH inX5 (hE.2.1 15 (by decide) (by decide)) (cq_mo E _) rfl 4 (by decide) (hts (.fieldLink RX5 19 "DryingKilnModel" "airOf" "[I") (by decide +kernel)) (fun _ h => h) rfl dX5_blow_57 ?_
            refine lv_iload hx hb dX5_blow_60 (lv_at hl 1 rfl) ?_
            refine lv_iload hx hb dX5_blow_62 (lv_at hl 0 rfl) ?_
            refine g_iast (n := 6) F hH (hE.2.1 19 (by decide) (by decide)) (fun _ => rfl) (eNb E 3 - 1 - t) rfl (by omega) (by omega) dX5_blow_64 (fun H locs hH => ?_)
            refine lv_iload_n hx hb dX5_blow_65 rfl (lv_at hl 4 rfl) ?_
            refine lv_aload_n hx hb dX5_blow_66 rfl (lv_at hl 2 rfl) ?_
            refine lv_iload hx hb dX5_blow_67 (lv_at hl 1 rfl) ?_
            refine lv_iconst (v := 1) hx hb dX5_blow_69 (by decide) ?_
            refine lv_iload hx hb dX5_blow_70 (lv_at hl 0 rfl) ?_
            refine g_vi (As := [.int (nI (eNb E 3 - 1 - t)), .int 1, .int 0]) F hH (c_X5_move_1 l E hE (st ((mbp E a v t).1) 19 (eNb E 3 - 1 - t) 0) (eNb E 3 - 1 - t) 0 (by first | assumption | omega | decide)) (cwV 3 hts gX5_blow_X5_move rfl rfl rfl (by decide +kernel) ⟨Nat.le_of_ble_eq_true rfl, Nat.le_of_ble_eq_true rfl⟩) (hE.2.1 15 (by decide) (by decide)) (cq_mo E _) rfl rfl hl.1 [.int ((mbp E a v t).2)] rfl (Nat.le_of_ble_eq_true rfl) dX5_blow_72 ⟨Nat.zero_le _, Nat.zero_le _⟩ (fun H locs hH => ?_)
            refine lv_iadd hx hb dX5_blow_75 ?_
            refine lv_istore_n (lv' := [(2, .int (((mbp E a v t).2) + ((mbot E (st ((mbp E a v t).1) 19 (eNb E 3 - 1 - t) 0) (eNb E 3 - 1 - t) 0) - -(mtop (st ((mbp E a v t).1) 19 (eNb E 3 - 1 - t) 0) (eNb E 3 - 1 - t) 0)))), (5, .int 0), (4, .int (nI (eNb E 3 - 1 - t))), (0, .ref (eAd E 15)), (1, .int a), (3, .int (nI t))]) hx hb dX5_blow_76 rfl hl (by decide) rfl (fun ls hl => ?_)
            refine lv_iinc (v := nI (t + 1)) (lv' := [(3, .int (nI (t + 1))), (2, .int (((mbp E a v t).2) + ((mbot E (st ((mbp E a v t).1) 19 (eNb E 3 - 1 - t) 0) (eNb E 3 - 1 - t) 0) - -(mtop (st ((mbp E a v t).1) 19 (eNb E 3 - 1 - t) 0) (eNb E 3 - 1 - t) 0)))), (5, .int 0), (4, .int (nI (eNb E 3 - 1 - t))), (0, .ref (eAd E 15)), (1, .int a)]) hx hb dX5_blow_77 hl (k := 5) rfl (nI_1 _) (by decide) rfl (fun ls hl => ?_)
            refine lv_goto (tgt := 4) hx hb dX5_blow_80 (by decide) ?_
            exact ih (t + 1) (by omega) _ _ ls (by first | exact hH | (simp only [mbp, mnum, mair, c2, c3, c5, if_true, if_false, ↓reduceIte]; exact hH)) (by first | exact lv_sub hl [4, 5, 1, 0] rfl | (have h := lv_sub hl [4, 5, 1, 0] rfl; simp only [mbp, mnum, mair, c2, c3, c5, if_true, if_false, ↓reduceIte]; exact h))
  exact loop4 (eNb E 3) 0 (Nat.zero_add _) _ _ ls hH (lv_sub hl [2, 3, 1, 0] rfl)

set_option maxHeartbeats 4000000 in
set_option maxRecDepth 100000 in
theorem c_X5_restAll (l : Launch) (E : Ev) (hE : EO E) (v : Mem) : Cv l yX5_restAll wsX5_restAll ({ frames := 1, cells := 0, slots := 0, locals := 26 } : Room) E [.ref (eAd E 15)] v (mrst E v) := by
  refine Cv.of (cc := cX5_restAll) (maxL := 2) (ret := none) (own := RX5) (by decide) rfl rfl (Nat.le_of_ble_eq_true rfl) ?_
  intro p e s m below meth c F hr hlk ls hl hH
  obtain ⟨hx, hb, hml, hown, hts⟩ := id F.1
  have hl : lv_has ls 2 [(0, .ref (eAd E 15))] := hl
  have inX5 : ∀ w ∈ wsX50, w ∈ wsX5_restAll := fun w h => List.mem_cons_of_mem _ (List.mem_append_right _ h)
  have hnb := hE.2.2.2.2.1 3 (by decide)
  have hm4 := hE.2.2.2.2.2.2
  refine lv_iconst (v := 0) hx hb dX5_restAll_0 (by decide) ?_
  refine lv_istore_n (lv' := [(1, .int 0), (0, .ref (eAd E 15))]) hx hb dX5_restAll_1 rfl hl (by decide) rfl (fun ls hl => ?_)
  have loop2 : ∀ (n t : Nat), t + n = eNb E 3 → ∀ (H : Heap) (locs : List Loc) (ls : Array Slot), HS E s.heap (mrs E v t) H locs → lv_has ls 2 [(0, .ref (eAd E 15)), (1, .int (nI t))] → W p l e ({ frames := 1, cells := 0, slots := 0, locals := 26 } : Room) s m ([.ref (eAd E 15)] : List Value).toArray below meth c H locs 0 0 (Zv below E ([.ref (eAd E 15)] : List Value).toArray s (mrst E v)) (F0 m 2 ls []) := by
    intro n
    induction n with
    | zero =>
      intro t ht H locs ls hH hl
      obtain rfl : eNb E 3 = t := by omega
      refine lv_iload_n hx hb dX5_restAll_2 rfl (lv_at hl 1 rfl) ?_
      refine lv_aload_n hx hb dX5_restAll_3 rfl (lv_at hl 0 rfl) ?_
      refine g_get (x := .int (nI (eNb E 3))) F hH inX5 (hE.2.1 15 (by decide) (by decide)) (cq_mo E _) rfl 0 (by decide) (hts (.fieldLink RX5 59 "DryingKilnModel" "boards" "I") (by decide +kernel)) (fun _ h => h) rfl dX5_restAll_4 ?_
      refine lv_icmp_ge (tgt := 24) hx hb dX5_restAll_7 (by decide) (fun c1 => ?_) (fun c1 => ?_)
      · skip
        exact g_vret F hr hlk hH rfl dX5_restAll_24
      · skip
        exact absurd (nI_le (Nat.le_refl _) (by omega)) c1
    | succ n ih =>
      intro t ht H locs ls hH hl
      have htN : t < eNb E 3 := by omega
      refine lv_iload_n hx hb dX5_restAll_2 rfl (lv_at hl 1 rfl) ?_
      refine lv_aload_n hx hb dX5_restAll_3 rfl (lv_at hl 0 rfl) ?_
      refine g_get (x := .int (nI (eNb E 3))) F hH inX5 (hE.2.1 15 (by decide) (by decide)) (cq_mo E _) rfl 0 (by decide) (hts (.fieldLink RX5 59 "DryingKilnModel" "boards" "I") (by decide +kernel)) (fun _ h => h) rfl dX5_restAll_4 ?_
      refine lv_icmp_ge (tgt := 24) hx hb dX5_restAll_7 (by decide) (fun c2 => ?_) (fun c2 => ?_)
      · skip
        exact absurd c2 (nI_ge htN (by omega))
      · skip
        refine lv_aload_n hx hb dX5_restAll_10 rfl (lv_at hl 0 rfl) ?_
        refine lv_iload_n hx hb dX5_restAll_11 rfl (lv_at hl 1 rfl) ?_
        refine lv_iconst (v := 0) hx hb dX5_restAll_12 (by decide) ?_
        refine lv_iconst (v := 0) hx hb dX5_restAll_13 (by decide) ?_
        refine g_vi (As := [.int (nI t), .int 0, .int 0]) F hH (c_X5_move_0 l E hE (mrs E v t) t 0 (by first | assumption | omega | decide)) (cwV 3 hts gX5_restAll_X5_move rfl rfl rfl (by decide +kernel) ⟨Nat.le_of_ble_eq_true rfl, Nat.le_of_ble_eq_true rfl⟩) (hE.2.1 15 (by decide) (by decide)) (cq_mo E _) rfl rfl hl.1 [] rfl (Nat.le_of_ble_eq_true rfl) dX5_restAll_14 ⟨Nat.zero_le _, Nat.zero_le _⟩ (fun H locs hH => ?_)
        refine lv_pop hx hb dX5_restAll_17 rfl ?_
        refine lv_iinc (v := nI (t + 1)) (lv' := [(1, .int (nI (t + 1))), (0, .ref (eAd E 15))]) hx hb dX5_restAll_18 hl (k := 1) rfl (nI_1 _) (by decide) rfl (fun ls hl => ?_)
        refine lv_goto (tgt := 2) hx hb dX5_restAll_21 (by decide) ?_
        exact ih (t + 1) (by omega) _ _ ls (by first | exact hH | (simp only [c2, if_true, if_false, ↓reduceIte]; exact hH)) (by first | exact lv_sub hl [1, 0] rfl | (have h := lv_sub hl [1, 0] rfl; simp only [c2, if_true, if_false, ↓reduceIte]; exact h))
  exact loop2 (eNb E 3) 0 (Nat.zero_add _) _ _ ls hH (lv_sub hl [1, 0] rfl)

set_option maxHeartbeats 4000000 in
set_option maxRecDepth 100000 in
theorem c_X5_endHour (l : Launch) (E : Ev) (hE : EO E) (v : Mem) : Ci l yX5_endHour wsX5_endHour ({ frames := 1, cells := 0, slots := 0, locals := 24 } : Room) E [.ref (eAd E 15)] v ((mend E v).2) ((mend E v).1) := by
  refine Ci.of (cc := cX5_endHour) (maxL := 3) (ret := (some .int)) (own := RX5) (by decide) rfl rfl (Nat.le_of_ble_eq_true rfl) ?_
  intro p e s m below meth c F hr hlk ls hl hH
  obtain ⟨hx, hb, hml, hown, hts⟩ := id F.1
  have hl : lv_has ls 3 [(0, .ref (eAd E 15))] := hl
  have inX5 : ∀ w ∈ wsX50, w ∈ wsX5_endHour := fun w h => List.mem_cons_of_mem _ (List.mem_append_right _ h)
  have hnb := hE.2.2.2.2.1 3 (by decide)
  have hm4 := hE.2.2.2.2.2.2
  refine lv_aload_n hx hb dX5_endHour_0 rfl (lv_at hl 0 rfl) ?_
  refine lv_dup hx hb dX5_endHour_1 rfl ?_
  refine g_get (x := .int (v 15 12)) F hH inX5 (hE.2.1 15 (by decide) (by decide)) (cq_mo E _) rfl 12 (by decide) (hts (.fieldLink RX5 107 "DryingKilnModel" "hours" "I") (by decide +kernel)) (fun _ h => h) rfl dX5_endHour_2 ?_
  refine lv_iconst (v := 1) hx hb dX5_endHour_5 (by decide) ?_
  refine lv_iadd hx hb dX5_endHour_6 ?_
  refine g_put (ty := .int) (x := (v 15 12) + 1) F hH inX5 tyX5 tyX5_ok nmX5 (hE.2.1 15 (by decide) (by decide)) (cq_mo E _) rfl 12 (by decide) (hts (.fieldLink RX5 107 "DryingKilnModel" "hours" "I") (by decide +kernel)) (fun _ h => h) rfl (by decide +kernel) rfl rfl (Nat.le_of_ble_eq_true rfl) (cq_mo E _) dX5_endHour_7 (fun H locs hH => ?_)
  refine lv_iconst (v := 0) hx hb dX5_endHour_10 (by decide) ?_
  refine lv_istore_n (lv' := [(1, .int 0), (0, .ref (eAd E 15))]) hx hb dX5_endHour_11 rfl hl (by decide) rfl (fun ls hl => ?_)
  refine lv_iconst (v := 0) hx hb dX5_endHour_12 (by decide) ?_
  refine lv_istore_n (lv' := [(2, .int 0), (1, .int 0), (0, .ref (eAd E 15))]) hx hb dX5_endHour_13 rfl hl (by decide) rfl (fun ls hl => ?_)
  have loop14 : ∀ (n t : Nat), t + n = eNb E 3 → ∀ (H : Heap) (locs : List Loc) (ls : Array Slot), HS E s.heap ((mec E (st v 15 12 (v 15 12 + 1)) t).1) H locs → lv_has ls 3 [(0, .ref (eAd E 15)), (1, .int ((mec E (st v 15 12 (v 15 12 + 1)) t).2)), (2, .int (nI t))] → W p l e ({ frames := 1, cells := 0, slots := 0, locals := 24 } : Room) s m ([.ref (eAd E 15)] : List Value).toArray below meth c H locs 0 0 (Zi below E ([.ref (eAd E 15)] : List Value).toArray s ((mend E v).2) ((mend E v).1)) (F0 m 14 ls []) := by
    intro n
    induction n with
    | zero =>
      intro t ht H locs ls hH hl
      obtain rfl : eNb E 3 = t := by omega
      refine lv_iload_n hx hb dX5_endHour_14 rfl (lv_at hl 2 rfl) ?_
      refine lv_aload_n hx hb dX5_endHour_15 rfl (lv_at hl 0 rfl) ?_
      refine g_get (x := .int (nI (eNb E 3))) F hH inX5 (hE.2.1 15 (by decide) (by decide)) (cq_mo E _) rfl 0 (by decide) (hts (.fieldLink RX5 59 "DryingKilnModel" "boards" "I") (by decide +kernel)) (fun _ h => h) rfl dX5_endHour_16 ?_
      refine lv_icmp_ge (tgt := 64) hx hb dX5_endHour_19 (by decide) (fun c1 => ?_) (fun c1 => ?_)
      · skip
        refine lv_iload_n hx hb dX5_endHour_64 rfl (lv_at hl 1 rfl) ?_
        exact g_iret F hr hlk hH rfl rfl dX5_endHour_65
      · skip
        exact absurd (nI_le (Nat.le_refl _) (by omega)) c1
    | succ n ih =>
      intro t ht H locs ls hH hl
      have htN : t < eNb E 3 := by omega
      refine lv_iload_n hx hb dX5_endHour_14 rfl (lv_at hl 2 rfl) ?_
      refine lv_aload_n hx hb dX5_endHour_15 rfl (lv_at hl 0 rfl) ?_
      refine g_get (x := .int (nI (eNb E 3))) F hH inX5 (hE.2.1 15 (by decide) (by decide)) (cq_mo E _) rfl 0 (by decide) (hts (.fieldLink RX5 59 "DryingKilnModel" "boards" "I") (by decide +kernel)) (fun _ h => h) rfl dX5_endHour_16 ?_
      refine lv_icmp_ge (tgt := 64) hx hb dX5_endHour_19 (by decide) (fun c2 => ?_) (fun c2 => ?_)
      · skip
        exact absurd c2 (nI_ge htN (by omega))
      · skip
        refine lv_aload_n hx hb dX5_endHour_22 rfl (lv_at hl 0 rfl) ?_
        refine lv_iload_n hx hb dX5_endHour_23 rfl (lv_at hl 2 rfl) ?_
        refine g_vi (As := [.int (nI t)]) F hH (c_X5_strainOf l E hE ((mec E (st v 15 12 (v 15 12 + 1)) t).1) t (by first | assumption | omega | decide)) (cwV 1 hts gX5_endHour_X5_strainOf rfl rfl rfl (by decide +kernel) ⟨Nat.le_of_ble_eq_true rfl, Nat.le_of_ble_eq_true rfl⟩) (hE.2.1 15 (by decide) (by decide)) (cq_mo E _) rfl rfl hl.1 [] rfl (Nat.le_of_ble_eq_true rfl) dX5_endHour_24 ⟨Nat.zero_le _, Nat.zero_le _⟩ (fun H locs hH => ?_)
        refine lv_aload_n hx hb dX5_endHour_27 rfl (lv_at hl 0 rfl) ?_
        refine g_get (x := .int (((mec E (st v 15 12 (v 15 12 + 1)) t).1) 15 8)) F hH inX5 (hE.2.1 15 (by decide) (by decide)) (cq_mo E _) rfl 8 (by decide) (hts (.fieldLink RX5 29 "DryingKilnModel" "limitNow" "I") (by decide +kernel)) (fun _ h => h) rfl dX5_endHour_28 ?_
        refine lv_icmp_le (tgt := 58) hx hb dX5_endHour_31 (by decide) (fun c3 => ?_) (fun c3 => ?_)
        · skip
          refine lv_iinc (v := nI (t + 1)) (lv' := [(2, .int (nI (t + 1))), (0, .ref (eAd E 15)), (1, .int ((mec E (st v 15 12 (v 15 12 + 1)) t).2))]) hx hb dX5_endHour_58 hl (k := 2) rfl (nI_1 _) (by decide) rfl (fun ls hl => ?_)
          refine lv_goto (tgt := 14) hx hb dX5_endHour_61 (by decide) ?_
          exact ih (t + 1) (by omega) _ _ ls (by first | exact hH | (simp only [mec, c2, c3, if_true, if_false, ↓reduceIte]; exact hH)) (by first | exact lv_sub hl [1, 2, 0] rfl | (have h := lv_sub hl [1, 2, 0] rfl; simp only [mec, c2, c3, if_true, if_false, ↓reduceIte]; exact h))
        · skip
          refine lv_aload_n hx hb dX5_endHour_34 rfl (lv_at hl 0 rfl) ?_
          refine g_get (x := .ref (eAd E 18)) F hH inX5 (hE.2.1 15 (by decide) (by decide)) (cq_mo E _) rfl 3 (by decide) (hts (.fieldLink RX5 16 "DryingKilnModel" "checkOf" "[I") (by decide +kernel)) (fun _ h => h) rfl dX5_endHour_35 ?_
          refine lv_iload_n hx hb dX5_endHour_38 rfl (lv_at hl 2 rfl) ?_
          refine g_iald (n := 6) (x := ((mec E (st v 15 12 (v 15 12 + 1)) t).1) 18 t) F hH (hE.2.1 18 (by decide) (by decide)) rfl t rfl (by omega) (by omega) rfl dX5_endHour_39 ?_
          refine lv_ldc (v := -1000005) hx hb hown (hts (.constant RX5 68 (-1000005)) (by decide +kernel)) dX5_endHour_40 ?_
          refine lv_icmp_ne (tgt := 58) hx hb dX5_endHour_42 (by decide) (fun c4 => ?_) (fun c4 => ?_)
          · skip
            refine lv_iinc (v := nI (t + 1)) (lv' := [(2, .int (nI (t + 1))), (0, .ref (eAd E 15)), (1, .int ((mec E (st v 15 12 (v 15 12 + 1)) t).2))]) hx hb dX5_endHour_58 hl (k := 2) rfl (nI_1 _) (by decide) rfl (fun ls hl => ?_)
            refine lv_goto (tgt := 14) hx hb dX5_endHour_61 (by decide) ?_
            exact ih (t + 1) (by omega) _ _ ls (by first | exact hH | (simp only [mec, c2, c3, c4, if_true, if_false, ↓reduceIte]; exact hH)) (by first | exact lv_sub hl [1, 2, 0] rfl | (have h := lv_sub hl [1, 2, 0] rfl; simp only [mec, c2, c3, c4, if_true, if_false, ↓reduceIte]; exact h))
          · skip
            refine lv_aload_n hx hb dX5_endHour_45 rfl (lv_at hl 0 rfl) ?_
            refine g_get (x := .ref (eAd E 18)) F hH inX5 (hE.2.1 15 (by decide) (by decide)) (cq_mo E _) rfl 3 (by decide) (hts (.fieldLink RX5 16 "DryingKilnModel" "checkOf" "[I") (by decide +kernel)) (fun _ h => h) rfl dX5_endHour_46 ?_
            refine lv_iload_n hx hb dX5_endHour_49 rfl (lv_at hl 2 rfl) ?_
            refine lv_aload_n hx hb dX5_endHour_50 rfl (lv_at hl 0 rfl) ?_
            refine g_get (x := .int (((mec E (st v 15 12 (v 15 12 + 1)) t).1) 15 12)) F hH inX5 (hE.2.1 15 (by decide) (by decide)) (cq_mo E _) rfl 12 (by decide) (hts (.fieldLink RX5 107 "DryingKilnModel" "hours" "I") (by decide +kernel)) (fun _ h => h) rfl dX5_endHour_51 ?_
            refine g_iast (n := 6) F hH (hE.2.1 18 (by decide) (by decide)) (fun _ => rfl) t rfl (by omega) (by omega) dX5_endHour_54 (fun H locs hH => ?_)
            refine lv_iinc (v := ((mec E (st v 15 12 (v 15 12 + 1)) t).2) + 1) (lv' := [(1, .int (((mec E (st v 15 12 (v 15 12 + 1)) t).2) + 1)), (0, .ref (eAd E 15)), (2, .int (nI t))]) hx hb dX5_endHour_55 hl (k := 1) rfl rfl (by decide) rfl (fun ls hl => ?_)
            refine lv_iinc (v := nI (t + 1)) (lv' := [(2, .int (nI (t + 1))), (1, .int (((mec E (st v 15 12 (v 15 12 + 1)) t).2) + 1)), (0, .ref (eAd E 15))]) hx hb dX5_endHour_58 hl (k := 2) rfl (nI_1 _) (by decide) rfl (fun ls hl => ?_)
            refine lv_goto (tgt := 14) hx hb dX5_endHour_61 (by decide) ?_
            exact ih (t + 1) (by omega) _ _ ls (by first | exact hH | (simp only [mec, c2, c3, c4, if_true, if_false, ↓reduceIte]; exact hH)) (by first | exact lv_sub hl [2, 1, 0] rfl | (have h := lv_sub hl [2, 1, 0] rfl; simp only [mec, c2, c3, c4, if_true, if_false, ↓reduceIte]; exact h))
  exact loop14 (eNb E 3) 0 (Nat.zero_add _) _ _ ls hH (lv_sub hl [2, 1, 0] rfl)

set_option maxHeartbeats 4000000 in
set_option maxRecDepth 100000 in
theorem c_X5_endDrying (l : Launch) (E : Ev) (hE : EO E) (v : Mem) : Cv l yX5_endDrying wsX5_endDrying ({ frames := 0, cells := 0, slots := 0, locals := 0 } : Room) E [.ref (eAd E 15)] v (med v) := by
  refine Cv.of (cc := cX5_endDrying) (maxL := 1) (ret := none) (own := RX5) (by decide) rfl rfl (Nat.le_of_ble_eq_true rfl) ?_
  intro p e s m below meth c F hr hlk ls hl hH
  obtain ⟨hx, hb, hml, hown, hts⟩ := id F.1
  have hl : lv_has ls 1 [(0, .ref (eAd E 15))] := hl
  have inX5 : ∀ w ∈ wsX50, w ∈ wsX5_endDrying := fun w h => List.mem_cons_of_mem _ (List.mem_append_right _ h)
  refine lv_aload_n hx hb dX5_endDrying_0 rfl (lv_at hl 0 rfl) ?_
  refine lv_dup hx hb dX5_endDrying_1 rfl ?_
  refine g_get (x := .int (v 15 13)) F hH inX5 (hE.2.1 15 (by decide) (by decide)) (cq_mo E _) rfl 13 (by decide) (hts (.fieldLink RX5 110 "DryingKilnModel" "dryingHours" "I") (by decide +kernel)) (fun _ h => h) rfl dX5_endDrying_2 ?_
  refine lv_iconst (v := 1) hx hb dX5_endDrying_5 (by decide) ?_
  refine lv_iadd hx hb dX5_endDrying_6 ?_
  refine g_put (ty := .int) (x := (v 15 13) + 1) F hH inX5 tyX5 tyX5_ok nmX5 (hE.2.1 15 (by decide) (by decide)) (cq_mo E _) rfl 13 (by decide) (hts (.fieldLink RX5 110 "DryingKilnModel" "dryingHours" "I") (by decide +kernel)) (fun _ h => h) rfl (by decide +kernel) rfl rfl (Nat.le_of_ble_eq_true rfl) (cq_mo E _) dX5_endDrying_7 (fun H locs hH => ?_)
  refine lv_aload_n hx hb dX5_endDrying_10 rfl (lv_at hl 0 rfl) ?_
  refine g_get (x := .int ((st v 15 13 ((v 15 13) + 1)) 15 11)) F hH inX5 (hE.2.1 15 (by decide) (by decide)) (cq_mo E _) rfl 11 (by decide) (hts (.fieldLink RX5 100 "DryingKilnModel" "period" "I") (by decide +kernel)) (fun _ h => h) rfl dX5_endDrying_11 ?_
  rw [show (st v 15 13 ((v 15 13) + 1)) 15 11 = v 15 11 by rw [st_nj _ _ _ (by decide)]]
  refine lv_if_le (tgt := 45) hx hb dX5_endDrying_14 (by decide) (fun c1 => ?_) (fun c1 => ?_)
  · skip
    exact g_vret F hr hlk hH (by first | rfl | (simp only [med, ntg, c1, if_true, if_false, ↓reduceIte]; done) | (simp only [med, ntg, c1, if_true, if_false, ↓reduceIte]; rfl)) dX5_endDrying_45
  · skip
    refine lv_aload_n hx hb dX5_endDrying_17 rfl (lv_at hl 0 rfl) ?_
    refine g_get (x := .int ((st v 15 13 ((v 15 13) + 1)) 15 13)) F hH inX5 (hE.2.1 15 (by decide) (by decide)) (cq_mo E _) rfl 13 (by decide) (hts (.fieldLink RX5 110 "DryingKilnModel" "dryingHours" "I") (by decide +kernel)) (fun _ h => h) rfl dX5_endDrying_18 ?_
    rw [show (st v 15 13 ((v 15 13) + 1)) 15 13 = (v 15 13) + 1 by rw [st_at]]
    refine lv_aload_n hx hb dX5_endDrying_21 rfl (lv_at hl 0 rfl) ?_
    refine g_get (x := .int ((st v 15 13 ((v 15 13) + 1)) 15 11)) F hH inX5 (hE.2.1 15 (by decide) (by decide)) (cq_mo E _) rfl 11 (by decide) (hts (.fieldLink RX5 100 "DryingKilnModel" "period" "I") (by decide +kernel)) (fun _ h => h) rfl dX5_endDrying_22 ?_
    rw [show (st v 15 13 ((v 15 13) + 1)) 15 11 = v 15 11 by rw [st_nj _ _ _ (by decide)]]
    refine lv_irem hx hb dX5_endDrying_25 (fun h => c1 (by rw [h]; decide)) ?_
    refine lv_if_ne (tgt := 45) hx hb dX5_endDrying_26 (by decide) (fun c2 => ?_) (fun c2 => ?_)
    · skip
      exact g_vret F hr hlk hH (by first | rfl | (simp only [med, ntg, c1, c2, if_true, if_false, ↓reduceIte]; done) | (simp only [med, ntg, c1, c2, if_true, if_false, ↓reduceIte]; rfl)) dX5_endDrying_45
    · skip
      refine lv_aload_n hx hb dX5_endDrying_29 rfl (lv_at hl 0 rfl) ?_
      refine lv_aload_n hx hb dX5_endDrying_30 rfl (lv_at hl 0 rfl) ?_
      refine g_get (x := .int ((st v 15 13 ((v 15 13) + 1)) 15 10)) F hH inX5 (hE.2.1 15 (by decide) (by decide)) (cq_mo E _) rfl 10 (by decide) (hts (.fieldLink RX5 96 "DryingKilnModel" "isReversed" "Z") (by decide +kernel)) (fun _ h => h) rfl dX5_endDrying_31 ?_
      rw [show (st v 15 13 ((v 15 13) + 1)) 15 10 = v 15 10 by rw [st_nj _ _ _ (by decide)]]
      refine lv_if_ne (tgt := 41) hx hb dX5_endDrying_34 (by decide) (fun c3 => ?_) (fun c3 => ?_)
      · skip
        refine lv_iconst (v := 0) hx hb dX5_endDrying_41 (by decide) ?_
        refine g_put (ty := .boolean) (x := 0) F hH inX5 tyX5 tyX5_ok nmX5 (hE.2.1 15 (by decide) (by decide)) (cq_mo E _) rfl 10 (by decide) (hts (.fieldLink RX5 96 "DryingKilnModel" "isReversed" "Z") (by decide +kernel)) (fun _ h => h) rfl (by decide +kernel) rfl rfl (Nat.le_of_ble_eq_true rfl) (cq_mo E _) dX5_endDrying_42 (fun H locs hH => ?_)
        exact g_vret F hr hlk hH (by first | rfl | (simp only [med, ntg, c1, c2, c3, if_true, if_false, ↓reduceIte]; done) | (simp only [med, ntg, c1, c2, c3, if_true, if_false, ↓reduceIte]; rfl)) dX5_endDrying_45
      · skip
        refine lv_iconst (v := 1) hx hb dX5_endDrying_37 (by decide) ?_
        refine lv_goto (tgt := 42) hx hb dX5_endDrying_38 (by decide) ?_
        refine g_put (ty := .boolean) (x := 1) F hH inX5 tyX5 tyX5_ok nmX5 (hE.2.1 15 (by decide) (by decide)) (cq_mo E _) rfl 10 (by decide) (hts (.fieldLink RX5 96 "DryingKilnModel" "isReversed" "Z") (by decide +kernel)) (fun _ h => h) rfl (by decide +kernel) rfl rfl (Nat.le_of_ble_eq_true rfl) (cq_mo E _) dX5_endDrying_42 (fun H locs hH => ?_)
        exact g_vret F hr hlk hH (by first | rfl | (simp only [med, ntg, c1, c2, c3, if_true, if_false, ↓reduceIte]; done) | (simp only [med, ntg, c1, c2, c3, if_true, if_false, ↓reduceIte]; rfl)) dX5_endDrying_45

set_option maxHeartbeats 4000000 in
set_option maxRecDepth 100000 in
theorem c_X5_dryHour (l : Launch) (E : Ev) (hE : EO E) (v : Mem) (a : Int32) (hcap : ¬ v 15 7 = 0) : Ci l yX5_dryHour wsX5_dryHour ({ frames := 2, cells := 0, slots := 0, locals := 51 } : Room) E [.ref (eAd E 15), .int a] v (mblr E a v) (mdh E a v) := by
  refine Ci.of (cc := cX5_dryHour) (maxL := 3) (ret := (some .int)) (own := RX5) (by decide) rfl rfl (Nat.le_of_ble_eq_true rfl) ?_
  intro p e s m below meth c F hr hlk ls hl hH
  obtain ⟨hx, hb, hml, hown, hts⟩ := id F.1
  have hl : lv_has ls 3 [(0, .ref (eAd E 15)), (1, .int a)] := hl
  have inX5 : ∀ w ∈ wsX50, w ∈ wsX5_dryHour := fun w h => List.mem_cons_of_mem _ (List.mem_append_right _ h)
  refine lv_aload_n hx hb dX5_dryHour_0 rfl (lv_at hl 0 rfl) ?_
  refine lv_iload_n hx hb dX5_dryHour_1 rfl (lv_at hl 1 rfl) ?_
  refine g_vi (As := [.int a]) F hH (c_X5_blow l E hE v a (by first | assumption | omega | decide)) (cwV 1 hts gX5_dryHour_X5_blow rfl rfl rfl (by decide +kernel) ⟨Nat.le_of_ble_eq_true rfl, Nat.le_of_ble_eq_true rfl⟩) (hE.2.1 15 (by decide) (by decide)) (cq_mo E _) rfl rfl hl.1 [] rfl (Nat.le_of_ble_eq_true rfl) dX5_dryHour_2 ⟨Nat.zero_le _, Nat.zero_le _⟩ (fun H locs hH => ?_)
  refine lv_istore_n (lv' := [(2, .int (mblr E a v)), (0, .ref (eAd E 15)), (1, .int a)]) hx hb dX5_dryHour_5 rfl hl (by decide) rfl (fun ls hl => ?_)
  refine lv_aload_n hx hb dX5_dryHour_6 rfl (lv_at hl 1 rfl) ?_
  refine lv_dup hx hb dX5_dryHour_7 rfl ?_
  refine g_get (x := .int ((mblm E a v) 15 14)) F hH inX5 (hE.2.1 15 (by decide) (by decide)) (cq_mo E _) rfl 14 (by decide) (hts (.fieldLink RX5 116 "DryingKilnModel" "total" "I") (by decide +kernel)) (fun _ h => h) rfl dX5_dryHour_8 ?_
  rw [show (mblm E a v) 15 14 = v 15 14 from congrFun (mbp_ne E a v (by decide) (by decide) (by decide) _) _]
  refine lv_iload_n hx hb dX5_dryHour_11 rfl (lv_at hl 0 rfl) ?_
  refine lv_iadd hx hb dX5_dryHour_12 ?_
  refine g_put (ty := .int) (x := (v 15 14) + (mblr E a v)) F hH inX5 tyX5 tyX5_ok nmX5 (hE.2.1 15 (by decide) (by decide)) (cq_mo E _) rfl 14 (by decide) (hts (.fieldLink RX5 116 "DryingKilnModel" "total" "I") (by decide +kernel)) (fun _ h => h) rfl (by decide +kernel) rfl rfl (Nat.le_of_ble_eq_true rfl) (cq_mo E _) dX5_dryHour_13 (fun H locs hH => ?_)
  refine lv_aload_n hx hb dX5_dryHour_16 rfl (lv_at hl 1 rfl) ?_
  refine g_vi (As := []) F hH (c_X5_endHour l E hE (st (mblm E a v) 15 14 ((v 15 14) + (mblr E a v)))) (cwV 0 hts gX5_dryHour_X5_endHour rfl rfl rfl (by decide +kernel) ⟨Nat.le_of_ble_eq_true rfl, Nat.le_of_ble_eq_true rfl⟩) (hE.2.1 15 (by decide) (by decide)) (cq_mo E _) rfl rfl hl.1 [] rfl (Nat.le_of_ble_eq_true rfl) dX5_dryHour_17 ⟨Nat.zero_le _, Nat.zero_le _⟩ (fun H locs hH => ?_)
  refine lv_pop hx hb dX5_dryHour_20 rfl ?_
  refine lv_aload_n hx hb dX5_dryHour_21 rfl (lv_at hl 1 rfl) ?_
  refine g_vv (As := []) F hH (c_X5_endDrying l E hE ((mend E (st (mblm E a v) 15 14 ((v 15 14) + (mblr E a v)))).1)) (cwV 0 hts gX5_dryHour_X5_endDrying rfl rfl rfl (by decide +kernel) ⟨Nat.le_of_ble_eq_true rfl, Nat.le_of_ble_eq_true rfl⟩) (hE.2.1 15 (by decide) (by decide)) (cq_mo E _) rfl rfl hl.1 [] rfl (Nat.le_of_ble_eq_true rfl) dX5_dryHour_22 ⟨Nat.zero_le _, Nat.zero_le _⟩ (fun H locs hH => ?_)
  refine lv_iload_n hx hb dX5_dryHour_25 rfl (lv_at hl 0 rfl) ?_
  exact g_iret F hr hlk hH rfl rfl dX5_dryHour_26

set_option maxHeartbeats 4000000 in
set_option maxRecDepth 100000 in
theorem c_X5_dry (l : Launch) (E : Ev) (hE : EO E) (v : Mem) (a : Int32) (hcap : ¬ v 15 7 = 0) : Ci l yX5_dry wsX5_dry ({ frames := 3, cells := 0, slots := 0, locals := 73 } : Room) E [.ref (eAd E 15), .int a] v (mdr E v a) (mdm E v a) := by
  refine Ci.of (cc := cX5_dry) (maxL := 4) (ret := (some .int)) (own := RX5) (by decide) rfl rfl (Nat.le_of_ble_eq_true rfl) ?_
  intro p e s m below meth c F hr hlk ls hl hH
  obtain ⟨hx, hb, hml, hown, hts⟩ := id F.1
  have hl : lv_has ls 4 [(0, .ref (eAd E 15)), (1, .int a)] := hl
  have inX5 : ∀ w ∈ wsX50, w ∈ wsX5_dry := fun w h => List.mem_cons_of_mem _ (List.mem_append_right _ h)
  refine lv_iload_n hx hb dX5_dry_0 rfl (lv_at hl 1 rfl) ?_
  refine lv_iconst (v := 1) hx hb dX5_dry_1 (by decide) ?_
  refine lv_sipush (v := 200) hx hb dX5_dry_2 (by decide) ?_
  refine g_si (As := [.int a, .int 1, .int 200]) F hH (c_X5_isBetween l E hE v a 1 200) (va_cwS 3 hts gX5_dry_X5_isBetween rfl rfl rfl (by decide +kernel) ⟨Nat.le_of_ble_eq_true rfl, Nat.le_of_ble_eq_true rfl⟩) rfl hl.1 [] rfl (Nat.le_of_ble_eq_true rfl) dX5_dry_5 ⟨Nat.zero_le _, Nat.zero_le _⟩ (fun H locs hH => ?_)
  refine lv_if_ne (tgt := 14) hx hb dX5_dry_8 (by decide) (fun c1 => ?_) (fun c1 => ?_)
  · skip
    obtain ⟨N, hN, rfl⟩ := btw_200 c1
    have hcl : (nI N).toNatClampNeg = N := nI_clamp (by omega)
    refine lv_iconst (v := 0) hx hb dX5_dry_14 (by decide) ?_
    refine lv_istore_n (lv' := [(2, .int 0), (0, .ref (eAd E 15)), (1, .int (nI N))]) hx hb dX5_dry_15 rfl hl (by decide) rfl (fun ls hl => ?_)
    refine lv_iconst (v := 0) hx hb dX5_dry_16 (by decide) ?_
    refine lv_istore_n (lv' := [(3, .int 0), (2, .int 0), (0, .ref (eAd E 15)), (1, .int (nI N))]) hx hb dX5_dry_17 rfl hl (by decide) rfl (fun ls hl => ?_)
    have loop18 : ∀ (n t : Nat), t + n = N → ∀ (H : Heap) (locs : List Loc) (ls : Array Slot), HS E s.heap ((mdp E v t).1) H locs → lv_has ls 4 [(0, .ref (eAd E 15)), (1, .int (nI N)), (2, .int ((mdp E v t).2)), (3, .int (nI t))] → W p l e ({ frames := 3, cells := 0, slots := 0, locals := 73 } : Room) s m ([.ref (eAd E 15), .int (nI N)] : List Value).toArray below meth c H locs 0 0 (Zi below E ([.ref (eAd E 15), .int (nI N)] : List Value).toArray s (mdr E v (nI N)) (mdm E v (nI N))) (F0 m 18 ls []) := by
      intro n
      induction n with
      | zero =>
        intro t ht H locs ls hH hl
        obtain rfl : N = t := by omega
        refine lv_iload_n hx hb dX5_dry_18 rfl (lv_at hl 3 rfl) ?_
        refine lv_iload_n hx hb dX5_dry_19 rfl (lv_at hl 1 rfl) ?_
        refine lv_icmp_ge (tgt := 40) hx hb dX5_dry_20 (by decide) (fun c2 => ?_) (fun c2 => ?_)
        · skip
          refine lv_iload_n hx hb dX5_dry_40 rfl (lv_at hl 2 rfl) ?_
          exact g_iret F hr hlk hH (by first | rfl | (simp only [mdr, mdm, c1, hcl, c2, if_true, if_false, ↓reduceIte]; done) | (simp only [mdr, mdm, c1, hcl, c2, if_true, if_false, ↓reduceIte]; rfl)) (by first | rfl | (simp only [mdr, mdm, c1, hcl, c2, if_true, if_false, ↓reduceIte]; done) | (simp only [mdr, mdm, c1, hcl, c2, if_true, if_false, ↓reduceIte]; rfl)) dX5_dry_41
        · skip
          exact absurd (nI_le (Nat.le_refl _) (by omega)) c2
      | succ n ih =>
        intro t ht H locs ls hH hl
        have htN : t < N := by omega
        refine lv_iload_n hx hb dX5_dry_18 rfl (lv_at hl 3 rfl) ?_
        refine lv_iload_n hx hb dX5_dry_19 rfl (lv_at hl 1 rfl) ?_
        refine lv_icmp_ge (tgt := 40) hx hb dX5_dry_20 (by decide) (fun c3 => ?_) (fun c3 => ?_)
        · skip
          exact absurd c3 (nI_ge htN (by omega))
        · skip
          refine lv_iload_n hx hb dX5_dry_23 rfl (lv_at hl 2 rfl) ?_
          refine lv_aload_n hx hb dX5_dry_24 rfl (lv_at hl 0 rfl) ?_
          refine lv_aload_n hx hb dX5_dry_25 rfl (lv_at hl 0 rfl) ?_
          refine g_get (x := .int (((mdp E v t).1) 15 9)) F hH inX5 (hE.2.1 15 (by decide) (by decide)) (cq_mo E _) rfl 9 (by decide) (hts (.fieldLink RX5 32 "DryingKilnModel" "humidityNow" "I") (by decide +kernel)) (fun _ h => h) rfl dX5_dry_26 ?_
          refine g_vi (As := [.int (((mdp E v t).1) 15 9)]) F hH (c_X5_dryHour l E hE ((mdp E v t).1) (((mdp E v t).1) 15 9) (by rw [mdp_15 E v (by decide) (by decide) (by decide) (by decide)]; exact hcap)) (cwV 1 hts gX5_dry_X5_dryHour rfl rfl rfl (by decide +kernel) ⟨Nat.le_of_ble_eq_true rfl, Nat.le_of_ble_eq_true rfl⟩) (hE.2.1 15 (by decide) (by decide)) (cq_mo E _) rfl rfl hl.1 [.int ((mdp E v t).2)] rfl (Nat.le_of_ble_eq_true rfl) dX5_dry_29 ⟨Nat.zero_le _, Nat.zero_le _⟩ (fun H locs hH => ?_)
          refine lv_iadd hx hb dX5_dry_32 ?_
          refine lv_istore_n (lv' := [(2, .int (((mdp E v t).2) + (mblr E (((mdp E v t).1) 15 9) ((mdp E v t).1)))), (0, .ref (eAd E 15)), (1, .int (nI N)), (3, .int (nI t))]) hx hb dX5_dry_33 rfl hl (by decide) rfl (fun ls hl => ?_)
          refine lv_iinc (v := nI (t + 1)) (lv' := [(3, .int (nI (t + 1))), (2, .int (((mdp E v t).2) + (mblr E (((mdp E v t).1) 15 9) ((mdp E v t).1)))), (0, .ref (eAd E 15)), (1, .int (nI N))]) hx hb dX5_dry_34 hl (k := 3) rfl (nI_1 _) (by decide) rfl (fun ls hl => ?_)
          refine lv_goto (tgt := 18) hx hb dX5_dry_37 (by decide) ?_
          exact ih (t + 1) (by omega) _ _ ls (by first | exact hH | (simp only [mdr, mdm, c1, hcl, c3, if_true, if_false, ↓reduceIte]; exact hH)) (by first | exact lv_sub hl [2, 3, 1, 0] rfl | (have h := lv_sub hl [2, 3, 1, 0] rfl; simp only [mdr, mdm, c1, hcl, c3, if_true, if_false, ↓reduceIte]; exact h))
    exact loop18 N 0 (Nat.zero_add _) _ _ ls hH (lv_sub hl [2, 3, 1, 0] rfl)
  · skip
    refine lv_ldc (v := -1000003) hx hb hown (hts (.constant RX5 66 (-1000003)) (by decide +kernel)) dX5_dry_11 ?_
    exact g_iret F hr hlk hH (by first | rfl | (simp only [mdr, mdm, c1, if_true, if_false, ↓reduceIte]; done) | (simp only [mdr, mdm, c1, if_true, if_false, ↓reduceIte]; rfl)) (by first | rfl | (simp only [mdr, mdm, c1, if_true, if_false, ↓reduceIte]; done) | (simp only [mdr, mdm, c1, if_true, if_false, ↓reduceIte]; rfl)) dX5_dry_13

set_option maxHeartbeats 4000000 in
set_option maxRecDepth 100000 in
theorem c_X5_rest (l : Launch) (E : Ev) (hE : EO E) (v : Mem) (a : Int32) : Ci l yX5_rest wsX5_rest ({ frames := 2, cells := 0, slots := 0, locals := 47 } : Room) E [.ref (eAd E 15), .int a] v (mrr E v a) (mrm E v a) := by
  refine Ci.of (cc := cX5_rest) (maxL := 4) (ret := (some .int)) (own := RX5) (by decide) rfl rfl (Nat.le_of_ble_eq_true rfl) ?_
  intro p e s m below meth c F hr hlk ls hl hH
  obtain ⟨hx, hb, hml, hown, hts⟩ := id F.1
  have hl : lv_has ls 4 [(0, .ref (eAd E 15)), (1, .int a)] := hl
  have inX5 : ∀ w ∈ wsX50, w ∈ wsX5_rest := fun w h => List.mem_cons_of_mem _ (List.mem_append_right _ h)
  refine lv_iload_n hx hb dX5_rest_0 rfl (lv_at hl 1 rfl) ?_
  refine lv_iconst (v := 1) hx hb dX5_rest_1 (by decide) ?_
  refine lv_sipush (v := 200) hx hb dX5_rest_2 (by decide) ?_
  refine g_si (As := [.int a, .int 1, .int 200]) F hH (c_X5_isBetween l E hE v a 1 200) (va_cwS 3 hts gX5_rest_X5_isBetween rfl rfl rfl (by decide +kernel) ⟨Nat.le_of_ble_eq_true rfl, Nat.le_of_ble_eq_true rfl⟩) rfl hl.1 [] rfl (Nat.le_of_ble_eq_true rfl) dX5_rest_5 ⟨Nat.zero_le _, Nat.zero_le _⟩ (fun H locs hH => ?_)
  refine lv_if_ne (tgt := 14) hx hb dX5_rest_8 (by decide) (fun c1 => ?_) (fun c1 => ?_)
  · skip
    obtain ⟨N, hN, rfl⟩ := btw_200 c1
    have hcl : (nI N).toNatClampNeg = N := nI_clamp (by omega)
    refine lv_iconst (v := 0) hx hb dX5_rest_14 (by decide) ?_
    refine lv_istore_n (lv' := [(2, .int 0), (0, .ref (eAd E 15)), (1, .int (nI N))]) hx hb dX5_rest_15 rfl hl (by decide) rfl (fun ls hl => ?_)
    refine lv_iconst (v := 0) hx hb dX5_rest_16 (by decide) ?_
    refine lv_istore_n (lv' := [(3, .int 0), (2, .int 0), (0, .ref (eAd E 15)), (1, .int (nI N))]) hx hb dX5_rest_17 rfl hl (by decide) rfl (fun ls hl => ?_)
    have loop18 : ∀ (n t : Nat), t + n = N → ∀ (H : Heap) (locs : List Loc) (ls : Array Slot), HS E s.heap ((mrp E v t).1) H locs → lv_has ls 4 [(0, .ref (eAd E 15)), (1, .int (nI N)), (2, .int ((mrp E v t).2)), (3, .int (nI t))] → W p l e ({ frames := 2, cells := 0, slots := 0, locals := 47 } : Room) s m ([.ref (eAd E 15), .int (nI N)] : List Value).toArray below meth c H locs 0 0 (Zi below E ([.ref (eAd E 15), .int (nI N)] : List Value).toArray s (mrr E v (nI N)) (mrm E v (nI N))) (F0 m 18 ls []) := by
      intro n
      induction n with
      | zero =>
        intro t ht H locs ls hH hl
        obtain rfl : N = t := by omega
        refine lv_iload_n hx hb dX5_rest_18 rfl (lv_at hl 3 rfl) ?_
        refine lv_iload_n hx hb dX5_rest_19 rfl (lv_at hl 1 rfl) ?_
        refine lv_icmp_ge (tgt := 40) hx hb dX5_rest_20 (by decide) (fun c2 => ?_) (fun c2 => ?_)
        · skip
          refine lv_iload_n hx hb dX5_rest_40 rfl (lv_at hl 2 rfl) ?_
          exact g_iret F hr hlk hH (by first | rfl | (simp only [mrr, mrm, c1, hcl, c2, if_true, if_false, ↓reduceIte]; done) | (simp only [mrr, mrm, c1, hcl, c2, if_true, if_false, ↓reduceIte]; rfl)) (by first | rfl | (simp only [mrr, mrm, c1, hcl, c2, if_true, if_false, ↓reduceIte]; done) | (simp only [mrr, mrm, c1, hcl, c2, if_true, if_false, ↓reduceIte]; rfl)) dX5_rest_41
        · skip
          exact absurd (nI_le (Nat.le_refl _) (by omega)) c2
      | succ n ih =>
        intro t ht H locs ls hH hl
        have htN : t < N := by omega
        refine lv_iload_n hx hb dX5_rest_18 rfl (lv_at hl 3 rfl) ?_
        refine lv_iload_n hx hb dX5_rest_19 rfl (lv_at hl 1 rfl) ?_
        refine lv_icmp_ge (tgt := 40) hx hb dX5_rest_20 (by decide) (fun c3 => ?_) (fun c3 => ?_)
        · skip
          exact absurd c3 (nI_ge htN (by omega))
        · skip
          refine lv_aload_n hx hb dX5_rest_23 rfl (lv_at hl 0 rfl) ?_
          refine g_vv (As := []) F hH (c_X5_restAll l E hE ((mrp E v t).1)) (cwV 0 hts gX5_rest_X5_restAll rfl rfl rfl (by decide +kernel) ⟨Nat.le_of_ble_eq_true rfl, Nat.le_of_ble_eq_true rfl⟩) (hE.2.1 15 (by decide) (by decide)) (cq_mo E _) rfl rfl hl.1 [] rfl (Nat.le_of_ble_eq_true rfl) dX5_rest_24 ⟨Nat.zero_le _, Nat.zero_le _⟩ (fun H locs hH => ?_)
          refine lv_iload_n hx hb dX5_rest_27 rfl (lv_at hl 2 rfl) ?_
          refine lv_aload_n hx hb dX5_rest_28 rfl (lv_at hl 0 rfl) ?_
          refine g_vi (As := []) F hH (c_X5_endHour l E hE (mrst E ((mrp E v t).1))) (cwV 0 hts gX5_rest_X5_endHour rfl rfl rfl (by decide +kernel) ⟨Nat.le_of_ble_eq_true rfl, Nat.le_of_ble_eq_true rfl⟩) (hE.2.1 15 (by decide) (by decide)) (cq_mo E _) rfl rfl hl.1 [.int ((mrp E v t).2)] rfl (Nat.le_of_ble_eq_true rfl) dX5_rest_29 ⟨Nat.zero_le _, Nat.zero_le _⟩ (fun H locs hH => ?_)
          refine lv_iadd hx hb dX5_rest_32 ?_
          refine lv_istore_n (lv' := [(2, .int (((mrp E v t).2) + ((mend E (mrst E ((mrp E v t).1))).2))), (0, .ref (eAd E 15)), (1, .int (nI N)), (3, .int (nI t))]) hx hb dX5_rest_33 rfl hl (by decide) rfl (fun ls hl => ?_)
          refine lv_iinc (v := nI (t + 1)) (lv' := [(3, .int (nI (t + 1))), (2, .int (((mrp E v t).2) + ((mend E (mrst E ((mrp E v t).1))).2))), (0, .ref (eAd E 15)), (1, .int (nI N))]) hx hb dX5_rest_34 hl (k := 3) rfl (nI_1 _) (by decide) rfl (fun ls hl => ?_)
          refine lv_goto (tgt := 18) hx hb dX5_rest_37 (by decide) ?_
          exact ih (t + 1) (by omega) _ _ ls (by first | exact hH | (simp only [mrr, mrm, c1, hcl, c3, if_true, if_false, ↓reduceIte]; exact hH)) (by first | exact lv_sub hl [2, 3, 1, 0] rfl | (have h := lv_sub hl [2, 3, 1, 0] rfl; simp only [mrr, mrm, c1, hcl, c3, if_true, if_false, ↓reduceIte]; exact h))
    exact loop18 N 0 (Nat.zero_add _) _ _ ls hH (lv_sub hl [2, 3, 1, 0] rfl)
  · skip
    refine lv_ldc (v := -1000003) hx hb hown (hts (.constant RX5 66 (-1000003)) (by decide +kernel)) dX5_rest_11 ?_
    exact g_iret F hr hlk hH (by first | rfl | (simp only [mrr, mrm, c1, if_true, if_false, ↓reduceIte]; done) | (simp only [mrr, mrm, c1, if_true, if_false, ↓reduceIte]; rfl)) (by first | rfl | (simp only [mrr, mrm, c1, if_true, if_false, ↓reduceIte]; done) | (simp only [mrr, mrm, c1, if_true, if_false, ↓reduceIte]; rfl)) dX5_rest_13

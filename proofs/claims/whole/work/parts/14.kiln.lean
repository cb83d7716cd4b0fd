set_option maxHeartbeats 4000000 in
set_option maxRecDepth 100000 in
theorem c_X4_averageMoisture (l : Launch) (E : Ev) (hE : EO E) (v : Mem) (a : Int32) : Ci l yX4_averageMoisture wsX4_averageMoisture ({ frames := 4, cells := 0, slots := 0, locals := 85 } : Room) E [.ref (eAd E 0), .int a] v (kav E v a) v := by
  refine Ci.of (cc := cX4_averageMoisture) (maxL := 2) (ret := (some .int)) (own := RX4) (by decide) rfl rfl (Nat.le_of_ble_eq_true rfl) ?_
  intro p e s m below meth c F hr hlk ls hl hH
  obtain ⟨hx, hb, hml, hown, hts⟩ := id F.1
  have hl : lv_has ls 2 [(0, .ref (eAd E 0)), (1, .int a)] := hl
  have inJx4a65c : ∀ w ∈ wsJx4a65c0, w ∈ wsX4_averageMoisture := fun w h => List.mem_cons_of_mem _ (List.mem_append_left _ (List.mem_append_right _ h))
  have inX0 : ∀ w ∈ wsX00, w ∈ wsX4_averageMoisture := fun w h => List.mem_cons_of_mem _ (List.mem_append_right _ h)
  have inX1 : ∀ w ∈ wsX10, w ∈ wsX4_averageMoisture := fun w h => List.mem_cons_of_mem _ (List.mem_append_left _ (List.mem_append_left _ (List.mem_append_right _ h)))
  have inX4 : ∀ w ∈ wsX40, w ∈ wsX4_averageMoisture := fun w h => List.mem_cons_of_mem _ (List.mem_append_left _ (List.mem_append_left _ (List.mem_append_left _ (List.mem_append_right _ h))))
  have hnb := hE.2.2.2.2.1 0 (by decide)
  refine lv_aload_n hx hb dX4_averageMoisture_0 rfl (lv_at hl 0 rfl) ?_
  refine g_get (x := .ref (eAd E 5)) F hH inX4 (hE.1 0 (by decide)) (cq_kiln E _) rfl 2 (by decide) (hts (.fieldLink RX4 26 "DryingKiln" "load" "LDryingKiln$Load;") (by decide +kernel)) (fun _ h => h) rfl dX4_averageMoisture_1 ?_
  refine lv_iload_n hx hb dX4_averageMoisture_4 rfl (lv_at hl 1 rfl) ?_
  refine g_vi (As := [.int a]) F hH (c_X1_has l E hE v 0 a (by first | assumption | omega | decide)) (cwV 1 hts gX4_averageMoisture_X1_has rfl rfl rfl (by decide +kernel) ⟨Nat.le_of_ble_eq_true rfl, Nat.le_of_ble_eq_true rfl⟩) (hE.1 5 (by decide)) (cq_ld E _ (i := 0) (by decide)) rfl rfl hl.1 [] rfl (Nat.le_of_ble_eq_true rfl) dX4_averageMoisture_5 ⟨Nat.zero_le _, Nat.zero_le _⟩ (fun H locs hH => ?_)
  refine lv_if_eq (tgt := 25) hx hb dX4_averageMoisture_8 (by decide) (fun c1 => ?_) (fun c1 => ?_)
  · skip
    refine lv_ldc (v := -1000001) hx hb hown (hts (.constant RX4 70 (-1000001)) (by decide +kernel)) dX4_averageMoisture_25 ?_
    exact g_iret F hr hlk hH (by first | rfl | (simp only [kav, c1, if_true, if_false, ↓reduceIte]; done) | (simp only [kav, c1, if_true, if_false, ↓reduceIte]; rfl)) (by first | rfl | (simp only [kav, c1, if_true, if_false, ↓reduceIte]; done) | (simp only [kav, c1, if_true, if_false, ↓reduceIte]; rfl)) dX4_averageMoisture_27
  · skip
    obtain ⟨j, hj, rfl⟩ := lhas_ne hnb c1
    have hcl : (nI j).toNatClampNeg = j := nI_clamp (by omega)
    refine lv_aload_n hx hb dX4_averageMoisture_11 rfl (lv_at hl 0 rfl) ?_
    refine g_get (x := .ref (eAd E 5)) F hH inX4 (hE.1 0 (by decide)) (cq_kiln E _) rfl 2 (by decide) (hts (.fieldLink RX4 26 "DryingKiln" "load" "LDryingKiln$Load;") (by decide +kernel)) (fun _ h => h) rfl dX4_averageMoisture_12 ?_
    refine lv_iload_n hx hb dX4_averageMoisture_15 rfl (lv_at hl 1 rfl) ?_
    refine g_vr (As := [.int (nI j)]) F hH (c_X1_boardAt l E hE v 0 j (by decide) hj) (cwV 1 hts gX4_averageMoisture_X1_boardAt rfl rfl rfl (by decide +kernel) ⟨Nat.le_of_ble_eq_true rfl, Nat.le_of_ble_eq_true rfl⟩) (hE.1 5 (by decide)) (cq_ld E _ (i := 0) (by decide)) rfl rfl hl.1 [] rfl (Nat.le_of_ble_eq_true rfl) dX4_averageMoisture_16 ⟨Nat.zero_le _, Nat.zero_le _⟩ (fun H locs hH => ?_)
    refine g_vi (As := []) F hH (c_X0_average l E hE v 0 j (by decide) hj) (cwV 0 hts gX4_averageMoisture_X0_average rfl rfl rfl (by decide +kernel) ⟨Nat.le_of_ble_eq_true rfl, Nat.le_of_ble_eq_true rfl⟩) (hE.2.2.2.1 0 j (by decide) hj).1 (cq_bo E _ (by omega)) rfl rfl hl.1 [] rfl (Nat.le_of_ble_eq_true rfl) dX4_averageMoisture_19 ⟨Nat.zero_le _, Nat.zero_le _⟩ (fun H locs hH => ?_)
    refine lv_goto (tgt := 27) hx hb dX4_averageMoisture_22 (by decide) ?_
    exact g_iret F hr hlk hH (by first | rfl | (simp only [kav, c1, hcl, if_true, if_false, ↓reduceIte]; done) | (simp only [kav, c1, hcl, if_true, if_false, ↓reduceIte]; rfl)) (by first | rfl | (simp only [kav, c1, hcl, if_true, if_false, ↓reduceIte]; done) | (simp only [kav, c1, hcl, if_true, if_false, ↓reduceIte]; rfl)) dX4_averageMoisture_27

set_option maxHeartbeats 4000000 in
set_option maxRecDepth 100000 in
theorem c_X4_strain (l : Launch) (E : Ev) (hE : EO E) (v : Mem) (a : Int32) : Ci l yX4_strain wsX4_strain ({ frames := 4, cells := 0, slots := 0, locals := 85 } : Room) E [.ref (eAd E 0), .int a] v (kstr E v a) v := by
  refine Ci.of (cc := cX4_strain) (maxL := 2) (ret := (some .int)) (own := RX4) (by decide) rfl rfl (Nat.le_of_ble_eq_true rfl) ?_
  intro p e s m below meth c F hr hlk ls hl hH
  obtain ⟨hx, hb, hml, hown, hts⟩ := id F.1
  have hl : lv_has ls 2 [(0, .ref (eAd E 0)), (1, .int a)] := hl
  have inJx4a65c : ∀ w ∈ wsJx4a65c0, w ∈ wsX4_strain := fun w h => List.mem_cons_of_mem _ (List.mem_append_left _ (List.mem_append_right _ h))
  have inX0 : ∀ w ∈ wsX00, w ∈ wsX4_strain := fun w h => List.mem_cons_of_mem _ (List.mem_append_right _ h)
  have inX1 : ∀ w ∈ wsX10, w ∈ wsX4_strain := fun w h => List.mem_cons_of_mem _ (List.mem_append_left _ (List.mem_append_left _ (List.mem_append_right _ h)))
  have inX4 : ∀ w ∈ wsX40, w ∈ wsX4_strain := fun w h => List.mem_cons_of_mem _ (List.mem_append_left _ (List.mem_append_left _ (List.mem_append_left _ (List.mem_append_right _ h))))
  have hnb := hE.2.2.2.2.1 0 (by decide)
  refine lv_aload_n hx hb dX4_strain_0 rfl (lv_at hl 0 rfl) ?_
  refine g_get (x := .ref (eAd E 5)) F hH inX4 (hE.1 0 (by decide)) (cq_kiln E _) rfl 2 (by decide) (hts (.fieldLink RX4 26 "DryingKiln" "load" "LDryingKiln$Load;") (by decide +kernel)) (fun _ h => h) rfl dX4_strain_1 ?_
  refine lv_iload_n hx hb dX4_strain_4 rfl (lv_at hl 1 rfl) ?_
  refine g_vi (As := [.int a]) F hH (c_X1_has l E hE v 0 a (by first | assumption | omega | decide)) (cwV 1 hts gX4_strain_X1_has rfl rfl rfl (by decide +kernel) ⟨Nat.le_of_ble_eq_true rfl, Nat.le_of_ble_eq_true rfl⟩) (hE.1 5 (by decide)) (cq_ld E _ (i := 0) (by decide)) rfl rfl hl.1 [] rfl (Nat.le_of_ble_eq_true rfl) dX4_strain_5 ⟨Nat.zero_le _, Nat.zero_le _⟩ (fun H locs hH => ?_)
  refine lv_if_eq (tgt := 25) hx hb dX4_strain_8 (by decide) (fun c1 => ?_) (fun c1 => ?_)
  · skip
    refine lv_ldc (v := -1000001) hx hb hown (hts (.constant RX4 70 (-1000001)) (by decide +kernel)) dX4_strain_25 ?_
    exact g_iret F hr hlk hH (by first | rfl | (simp only [kstr, c1, if_true, if_false, ↓reduceIte]; done) | (simp only [kstr, c1, if_true, if_false, ↓reduceIte]; rfl)) (by first | rfl | (simp only [kstr, c1, if_true, if_false, ↓reduceIte]; done) | (simp only [kstr, c1, if_true, if_false, ↓reduceIte]; rfl)) dX4_strain_27
  · skip
    obtain ⟨j, hj, rfl⟩ := lhas_ne hnb c1
    have hcl : (nI j).toNatClampNeg = j := nI_clamp (by omega)
    refine lv_aload_n hx hb dX4_strain_11 rfl (lv_at hl 0 rfl) ?_
    refine g_get (x := .ref (eAd E 5)) F hH inX4 (hE.1 0 (by decide)) (cq_kiln E _) rfl 2 (by decide) (hts (.fieldLink RX4 26 "DryingKiln" "load" "LDryingKiln$Load;") (by decide +kernel)) (fun _ h => h) rfl dX4_strain_12 ?_
    refine lv_iload_n hx hb dX4_strain_15 rfl (lv_at hl 1 rfl) ?_
    refine g_vr (As := [.int (nI j)]) F hH (c_X1_boardAt l E hE v 0 j (by decide) hj) (cwV 1 hts gX4_strain_X1_boardAt rfl rfl rfl (by decide +kernel) ⟨Nat.le_of_ble_eq_true rfl, Nat.le_of_ble_eq_true rfl⟩) (hE.1 5 (by decide)) (cq_ld E _ (i := 0) (by decide)) rfl rfl hl.1 [] rfl (Nat.le_of_ble_eq_true rfl) dX4_strain_16 ⟨Nat.zero_le _, Nat.zero_le _⟩ (fun H locs hH => ?_)
    refine g_vi (As := []) F hH (c_X0_gradient l E hE v 0 j (by decide) hj) (cwV 0 hts gX4_strain_X0_gradient rfl rfl rfl (by decide +kernel) ⟨Nat.le_of_ble_eq_true rfl, Nat.le_of_ble_eq_true rfl⟩) (hE.2.2.2.1 0 j (by decide) hj).1 (cq_bo E _ (by omega)) rfl rfl hl.1 [] rfl (Nat.le_of_ble_eq_true rfl) dX4_strain_19 ⟨Nat.zero_le _, Nat.zero_le _⟩ (fun H locs hH => ?_)
    refine lv_goto (tgt := 27) hx hb dX4_strain_22 (by decide) ?_
    exact g_iret F hr hlk hH (by first | rfl | (simp only [kstr, c1, hcl, if_true, if_false, ↓reduceIte]; done) | (simp only [kstr, c1, hcl, if_true, if_false, ↓reduceIte]; rfl)) (by first | rfl | (simp only [kstr, c1, hcl, if_true, if_false, ↓reduceIte]; done) | (simp only [kstr, c1, hcl, if_true, if_false, ↓reduceIte]; rfl)) dX4_strain_27

set_option maxHeartbeats 4000000 in
set_option maxRecDepth 100000 in
theorem c_X4_checkHour (l : Launch) (E : Ev) (hE : EO E) (v : Mem) (a : Int32) : Ci l yX4_checkHour wsX4_checkHour ({ frames := 4, cells := 0, slots := 0, locals := 85 } : Room) E [.ref (eAd E 0), .int a] v (kfld E v 1 a) v := by
  refine Ci.of (cc := cX4_checkHour) (maxL := 2) (ret := (some .int)) (own := RX4) (by decide) rfl rfl (Nat.le_of_ble_eq_true rfl) ?_
  intro p e s m below meth c F hr hlk ls hl hH
  obtain ⟨hx, hb, hml, hown, hts⟩ := id F.1
  have hl : lv_has ls 2 [(0, .ref (eAd E 0)), (1, .int a)] := hl
  have inJx4a65c : ∀ w ∈ wsJx4a65c0, w ∈ wsX4_checkHour := fun w h => List.mem_cons_of_mem _ (List.mem_append_right _ h)
  have inX0 : ∀ w ∈ wsX00, w ∈ wsX4_checkHour := fun w h => List.mem_cons_of_mem _ (List.mem_append_left _ (List.mem_append_left _ (List.mem_append_right _ h)))
  have inX1 : ∀ w ∈ wsX10, w ∈ wsX4_checkHour := fun w h => List.mem_cons_of_mem _ (List.mem_append_left _ (List.mem_append_right _ h))
  have inX4 : ∀ w ∈ wsX40, w ∈ wsX4_checkHour := fun w h => List.mem_cons_of_mem _ (List.mem_append_left _ (List.mem_append_left _ (List.mem_append_left _ (List.mem_append_right _ h))))
  have hnb := hE.2.2.2.2.1 0 (by decide)
  refine lv_aload_n hx hb dX4_checkHour_0 rfl (lv_at hl 0 rfl) ?_
  refine g_get (x := .ref (eAd E 5)) F hH inX4 (hE.1 0 (by decide)) (cq_kiln E _) rfl 2 (by decide) (hts (.fieldLink RX4 26 "DryingKiln" "load" "LDryingKiln$Load;") (by decide +kernel)) (fun _ h => h) rfl dX4_checkHour_1 ?_
  refine lv_iload_n hx hb dX4_checkHour_4 rfl (lv_at hl 1 rfl) ?_
  refine g_vi (As := [.int a]) F hH (c_X1_has l E hE v 0 a (by first | assumption | omega | decide)) (cwV 1 hts gX4_checkHour_X1_has rfl rfl rfl (by decide +kernel) ⟨Nat.le_of_ble_eq_true rfl, Nat.le_of_ble_eq_true rfl⟩) (hE.1 5 (by decide)) (cq_ld E _ (i := 0) (by decide)) rfl rfl hl.1 [] rfl (Nat.le_of_ble_eq_true rfl) dX4_checkHour_5 ⟨Nat.zero_le _, Nat.zero_le _⟩ (fun H locs hH => ?_)
  refine lv_if_eq (tgt := 25) hx hb dX4_checkHour_8 (by decide) (fun c1 => ?_) (fun c1 => ?_)
  · skip
    refine lv_ldc (v := -1000001) hx hb hown (hts (.constant RX4 70 (-1000001)) (by decide +kernel)) dX4_checkHour_25 ?_
    exact g_iret F hr hlk hH (by first | rfl | (simp only [kfld, c1, if_true, if_false, ↓reduceIte]; done) | (simp only [kfld, c1, if_true, if_false, ↓reduceIte]; rfl)) (by first | rfl | (simp only [kfld, c1, if_true, if_false, ↓reduceIte]; done) | (simp only [kfld, c1, if_true, if_false, ↓reduceIte]; rfl)) dX4_checkHour_27
  · skip
    obtain ⟨j, hj, rfl⟩ := lhas_ne hnb c1
    have hcl : (nI j).toNatClampNeg = j := nI_clamp (by omega)
    refine lv_aload_n hx hb dX4_checkHour_11 rfl (lv_at hl 0 rfl) ?_
    refine g_get (x := .ref (eAd E 5)) F hH inX4 (hE.1 0 (by decide)) (cq_kiln E _) rfl 2 (by decide) (hts (.fieldLink RX4 26 "DryingKiln" "load" "LDryingKiln$Load;") (by decide +kernel)) (fun _ h => h) rfl dX4_checkHour_12 ?_
    refine lv_iload_n hx hb dX4_checkHour_15 rfl (lv_at hl 1 rfl) ?_
    refine g_vr (As := [.int (nI j)]) F hH (c_X1_boardAt l E hE v 0 j (by decide) hj) (cwV 1 hts gX4_checkHour_X1_boardAt rfl rfl rfl (by decide +kernel) ⟨Nat.le_of_ble_eq_true rfl, Nat.le_of_ble_eq_true rfl⟩) (hE.1 5 (by decide)) (cq_ld E _ (i := 0) (by decide)) rfl rfl hl.1 [] rfl (Nat.le_of_ble_eq_true rfl) dX4_checkHour_16 ⟨Nat.zero_le _, Nat.zero_le _⟩ (fun H locs hH => ?_)
    refine g_get (x := .int (v (bo 0 j) 1)) F hH inX0 (hE.2.2.2.1 0 j (by decide) hj).1 (cq_bo E _ (by omega)) rfl 1 (by decide) (hts (.fieldLink RX4 85 "DryingKiln$Board" "checkedAt" "I") (by decide +kernel)) (fun _ h => h) rfl dX4_checkHour_19 ?_
    refine lv_goto (tgt := 27) hx hb dX4_checkHour_22 (by decide) ?_
    exact g_iret F hr hlk hH (by first | rfl | (simp only [kfld, c1, hcl, if_true, if_false, ↓reduceIte]; done) | (simp only [kfld, c1, hcl, if_true, if_false, ↓reduceIte]; rfl)) (by first | rfl | (simp only [kfld, c1, hcl, if_true, if_false, ↓reduceIte]; done) | (simp only [kfld, c1, hcl, if_true, if_false, ↓reduceIte]; rfl)) dX4_checkHour_27

set_option maxHeartbeats 4000000 in
set_option maxRecDepth 100000 in
theorem c_X4_airMoisture (l : Launch) (E : Ev) (hE : EO E) (v : Mem) (a : Int32) : Ci l yX4_airMoisture wsX4_airMoisture ({ frames := 4, cells := 0, slots := 0, locals := 85 } : Room) E [.ref (eAd E 0), .int a] v (kfld E v 2 a) v := by
  refine Ci.of (cc := cX4_airMoisture) (maxL := 2) (ret := (some .int)) (own := RX4) (by decide) rfl rfl (Nat.le_of_ble_eq_true rfl) ?_
  intro p e s m below meth c F hr hlk ls hl hH
  obtain ⟨hx, hb, hml, hown, hts⟩ := id F.1
  have hl : lv_has ls 2 [(0, .ref (eAd E 0)), (1, .int a)] := hl
  have inJx4a65c : ∀ w ∈ wsJx4a65c0, w ∈ wsX4_airMoisture := fun w h => List.mem_cons_of_mem _ (List.mem_append_right _ h)
  have inX0 : ∀ w ∈ wsX00, w ∈ wsX4_airMoisture := fun w h => List.mem_cons_of_mem _ (List.mem_append_left _ (List.mem_append_left _ (List.mem_append_right _ h)))
  have inX1 : ∀ w ∈ wsX10, w ∈ wsX4_airMoisture := fun w h => List.mem_cons_of_mem _ (List.mem_append_left _ (List.mem_append_right _ h))
  have inX4 : ∀ w ∈ wsX40, w ∈ wsX4_airMoisture := fun w h => List.mem_cons_of_mem _ (List.mem_append_left _ (List.mem_append_left _ (List.mem_append_left _ (List.mem_append_right _ h))))
  have hnb := hE.2.2.2.2.1 0 (by decide)
  refine lv_aload_n hx hb dX4_airMoisture_0 rfl (lv_at hl 0 rfl) ?_
  refine g_get (x := .ref (eAd E 5)) F hH inX4 (hE.1 0 (by decide)) (cq_kiln E _) rfl 2 (by decide) (hts (.fieldLink RX4 26 "DryingKiln" "load" "LDryingKiln$Load;") (by decide +kernel)) (fun _ h => h) rfl dX4_airMoisture_1 ?_
  refine lv_iload_n hx hb dX4_airMoisture_4 rfl (lv_at hl 1 rfl) ?_
  refine g_vi (As := [.int a]) F hH (c_X1_has l E hE v 0 a (by first | assumption | omega | decide)) (cwV 1 hts gX4_airMoisture_X1_has rfl rfl rfl (by decide +kernel) ⟨Nat.le_of_ble_eq_true rfl, Nat.le_of_ble_eq_true rfl⟩) (hE.1 5 (by decide)) (cq_ld E _ (i := 0) (by decide)) rfl rfl hl.1 [] rfl (Nat.le_of_ble_eq_true rfl) dX4_airMoisture_5 ⟨Nat.zero_le _, Nat.zero_le _⟩ (fun H locs hH => ?_)
  refine lv_if_eq (tgt := 25) hx hb dX4_airMoisture_8 (by decide) (fun c1 => ?_) (fun c1 => ?_)
  · skip
    refine lv_ldc (v := -1000001) hx hb hown (hts (.constant RX4 70 (-1000001)) (by decide +kernel)) dX4_airMoisture_25 ?_
    exact g_iret F hr hlk hH (by first | rfl | (simp only [kfld, c1, if_true, if_false, ↓reduceIte]; done) | (simp only [kfld, c1, if_true, if_false, ↓reduceIte]; rfl)) (by first | rfl | (simp only [kfld, c1, if_true, if_false, ↓reduceIte]; done) | (simp only [kfld, c1, if_true, if_false, ↓reduceIte]; rfl)) dX4_airMoisture_27
  · skip
    obtain ⟨j, hj, rfl⟩ := lhas_ne hnb c1
    have hcl : (nI j).toNatClampNeg = j := nI_clamp (by omega)
    refine lv_aload_n hx hb dX4_airMoisture_11 rfl (lv_at hl 0 rfl) ?_
    refine g_get (x := .ref (eAd E 5)) F hH inX4 (hE.1 0 (by decide)) (cq_kiln E _) rfl 2 (by decide) (hts (.fieldLink RX4 26 "DryingKiln" "load" "LDryingKiln$Load;") (by decide +kernel)) (fun _ h => h) rfl dX4_airMoisture_12 ?_
    refine lv_iload_n hx hb dX4_airMoisture_15 rfl (lv_at hl 1 rfl) ?_
    refine g_vr (As := [.int (nI j)]) F hH (c_X1_boardAt l E hE v 0 j (by decide) hj) (cwV 1 hts gX4_airMoisture_X1_boardAt rfl rfl rfl (by decide +kernel) ⟨Nat.le_of_ble_eq_true rfl, Nat.le_of_ble_eq_true rfl⟩) (hE.1 5 (by decide)) (cq_ld E _ (i := 0) (by decide)) rfl rfl hl.1 [] rfl (Nat.le_of_ble_eq_true rfl) dX4_airMoisture_16 ⟨Nat.zero_le _, Nat.zero_le _⟩ (fun H locs hH => ?_)
    refine g_get (x := .int (v (bo 0 j) 2)) F hH inX0 (hE.2.2.2.1 0 j (by decide) hj).1 (cq_bo E _ (by omega)) rfl 2 (by decide) (hts (.fieldLink RX4 130 "DryingKiln$Board" "air" "I") (by decide +kernel)) (fun _ h => h) rfl dX4_airMoisture_19 ?_
    refine lv_goto (tgt := 27) hx hb dX4_airMoisture_22 (by decide) ?_
    exact g_iret F hr hlk hH (by first | rfl | (simp only [kfld, c1, hcl, if_true, if_false, ↓reduceIte]; done) | (simp only [kfld, c1, hcl, if_true, if_false, ↓reduceIte]; rfl)) (by first | rfl | (simp only [kfld, c1, hcl, if_true, if_false, ↓reduceIte]; done) | (simp only [kfld, c1, hcl, if_true, if_false, ↓reduceIte]; rfl)) dX4_airMoisture_27

set_option maxHeartbeats 4000000 in
set_option maxRecDepth 100000 in
theorem c_X4_wettestBoard (l : Launch) (E : Ev) (hE : EO E) (v : Mem) : Ci l yX4_wettestBoard wsX4_wettestBoard ({ frames := 4, cells := 0, slots := 0, locals := 88 } : Room) E [.ref (eAd E 0)] v (lwb E v 0 (eNb E 0)) v := by
  refine Ci.of (cc := cX4_wettestBoard) (maxL := 1) (ret := (some .int)) (own := RX4) (by decide) rfl rfl (Nat.le_of_ble_eq_true rfl) ?_
  intro p e s m below meth c F hr hlk ls hl hH
  obtain ⟨hx, hb, hml, hown, hts⟩ := id F.1
  have hl : lv_has ls 1 [(0, .ref (eAd E 0))] := hl
  have inJx4a65c : ∀ w ∈ wsJx4a65c0, w ∈ wsX4_wettestBoard := fun w h => List.mem_cons_of_mem _ (List.mem_append_left _ (List.mem_append_right _ h))
  have inX0 : ∀ w ∈ wsX00, w ∈ wsX4_wettestBoard := fun w h => List.mem_cons_of_mem _ (List.mem_append_right _ h)
  have inX1 : ∀ w ∈ wsX10, w ∈ wsX4_wettestBoard := fun w h => List.mem_cons_of_mem _ (List.mem_append_left _ (List.mem_append_left _ (List.mem_append_right _ h)))
  have inX4 : ∀ w ∈ wsX40, w ∈ wsX4_wettestBoard := fun w h => List.mem_cons_of_mem _ (List.mem_append_left _ (List.mem_append_left _ (List.mem_append_left _ (List.mem_append_right _ h))))
  refine lv_aload_n hx hb dX4_wettestBoard_0 rfl (lv_at hl 0 rfl) ?_
  refine g_get (x := .ref (eAd E 5)) F hH inX4 (hE.1 0 (by decide)) (cq_kiln E _) rfl 2 (by decide) (hts (.fieldLink RX4 26 "DryingKiln" "load" "LDryingKiln$Load;") (by decide +kernel)) (fun _ h => h) rfl dX4_wettestBoard_1 ?_
  refine g_vi (As := []) F hH (c_X1_wettest l E hE v 0 (by first | assumption | omega | decide)) (cwV 0 hts gX4_wettestBoard_X1_wettest rfl rfl rfl (by decide +kernel) ⟨Nat.le_of_ble_eq_true rfl, Nat.le_of_ble_eq_true rfl⟩) (hE.1 5 (by decide)) (cq_ld E _ (i := 0) (by decide)) rfl rfl hl.1 [] rfl (Nat.le_of_ble_eq_true rfl) dX4_wettestBoard_4 ⟨Nat.zero_le _, Nat.zero_le _⟩ (fun H locs hH => ?_)
  exact g_iret F hr hlk hH (by first | rfl | (simp only [if_true, if_false, ↓reduceIte]; done) | (simp only [if_true, if_false, ↓reduceIte]; rfl)) (by first | rfl | (simp only [if_true, if_false, ↓reduceIte]; done) | (simp only [if_true, if_false, ↓reduceIte]; rfl)) dX4_wettestBoard_7

set_option maxHeartbeats 4000000 in
set_option maxRecDepth 100000 in
theorem c_X4_totalWater (l : Launch) (E : Ev) (hE : EO E) (v : Mem) : Ci l yX4_totalWater wsX4_totalWater ({ frames := 4, cells := 0, slots := 0, locals := 86 } : Room) E [.ref (eAd E 0)] v (lwat E v 0 (eNb E 0)) v := by
  refine Ci.of (cc := cX4_totalWater) (maxL := 1) (ret := (some .int)) (own := RX4) (by decide) rfl rfl (Nat.le_of_ble_eq_true rfl) ?_
  intro p e s m below meth c F hr hlk ls hl hH
  obtain ⟨hx, hb, hml, hown, hts⟩ := id F.1
  have hl : lv_has ls 1 [(0, .ref (eAd E 0))] := hl
  have inJx4a65c : ∀ w ∈ wsJx4a65c0, w ∈ wsX4_totalWater := fun w h => List.mem_cons_of_mem _ (List.mem_append_left _ (List.mem_append_right _ h))
  have inX0 : ∀ w ∈ wsX00, w ∈ wsX4_totalWater := fun w h => List.mem_cons_of_mem _ (List.mem_append_right _ h)
  have inX1 : ∀ w ∈ wsX10, w ∈ wsX4_totalWater := fun w h => List.mem_cons_of_mem _ (List.mem_append_left _ (List.mem_append_left _ (List.mem_append_right _ h)))
  have inX4 : ∀ w ∈ wsX40, w ∈ wsX4_totalWater := fun w h => List.mem_cons_of_mem _ (List.mem_append_left _ (List.mem_append_left _ (List.mem_append_left _ (List.mem_append_right _ h))))
  refine lv_aload_n hx hb dX4_totalWater_0 rfl (lv_at hl 0 rfl) ?_
  refine g_get (x := .ref (eAd E 5)) F hH inX4 (hE.1 0 (by decide)) (cq_kiln E _) rfl 2 (by decide) (hts (.fieldLink RX4 26 "DryingKiln" "load" "LDryingKiln$Load;") (by decide +kernel)) (fun _ h => h) rfl dX4_totalWater_1 ?_
  refine g_vi (As := []) F hH (c_X1_water l E hE v 0 (by first | assumption | omega | decide)) (cwV 0 hts gX4_totalWater_X1_water rfl rfl rfl (by decide +kernel) ⟨Nat.le_of_ble_eq_true rfl, Nat.le_of_ble_eq_true rfl⟩) (hE.1 5 (by decide)) (cq_ld E _ (i := 0) (by decide)) rfl rfl hl.1 [] rfl (Nat.le_of_ble_eq_true rfl) dX4_totalWater_4 ⟨Nat.zero_le _, Nat.zero_le _⟩ (fun H locs hH => ?_)
  exact g_iret F hr hlk hH (by first | rfl | (simp only [if_true, if_false, ↓reduceIte]; done) | (simp only [if_true, if_false, ↓reduceIte]; rfl)) (by first | rfl | (simp only [if_true, if_false, ↓reduceIte]; done) | (simp only [if_true, if_false, ↓reduceIte]; rfl)) dX4_totalWater_7

set_option maxHeartbeats 4000000 in
set_option maxRecDepth 100000 in
theorem c_X4_setLayer (l : Launch) (E : Ev) (hE : EO E) (v : Mem) (a : Int32) (b : Int32) (d : Int32) : Ci l yX4_setLayer wsX4_setLayer ({ frames := 4, cells := 0, slots := 0, locals := 85 } : Room) E [.ref (eAd E 0), .int a, .int b, .int d] v (kslr E v a b d) (kslm E v a b d) := by
  refine Ci.of (cc := cX4_setLayer) (maxL := 6) (ret := (some .int)) (own := RX4) (by decide) rfl rfl (Nat.le_of_ble_eq_true rfl) ?_
  intro p e s m below meth c F hr hlk ls hl hH
  obtain ⟨hx, hb, hml, hown, hts⟩ := id F.1
  have hl : lv_has ls 6 [(0, .ref (eAd E 0)), (1, .int a), (2, .int b), (3, .int d)] := hl
  have inJx4a65c : ∀ w ∈ wsJx4a65c0, w ∈ wsX4_setLayer := fun w h => List.mem_cons_of_mem _ (List.mem_append_right _ h)
  have inX0 : ∀ w ∈ wsX00, w ∈ wsX4_setLayer := fun w h => List.mem_cons_of_mem _ (List.mem_append_left _ (List.mem_append_left _ (List.mem_append_right _ h)))
  have inX1 : ∀ w ∈ wsX10, w ∈ wsX4_setLayer := fun w h => List.mem_cons_of_mem _ (List.mem_append_left _ (List.mem_append_right _ h))
  have inX4 : ∀ w ∈ wsX40, w ∈ wsX4_setLayer := fun w h => List.mem_cons_of_mem _ (List.mem_append_left _ (List.mem_append_left _ (List.mem_append_left _ (List.mem_append_right _ h))))
  have hnb := hE.2.2.2.2.1 0 (by decide)
  refine lv_aload_n hx hb dX4_setLayer_0 rfl (lv_at hl 0 rfl) ?_
  refine g_get (x := .ref (eAd E 5)) F hH inX4 (hE.1 0 (by decide)) (cq_kiln E _) rfl 2 (by decide) (hts (.fieldLink RX4 26 "DryingKiln" "load" "LDryingKiln$Load;") (by decide +kernel)) (fun _ h => h) rfl dX4_setLayer_1 ?_
  refine lv_iload_n hx hb dX4_setLayer_4 rfl (lv_at hl 1 rfl) ?_
  refine g_vi (As := [.int a]) F hH (c_X1_has l E hE v 0 a (by first | assumption | omega | decide)) (cwV 1 hts gX4_setLayer_X1_has rfl rfl rfl (by decide +kernel) ⟨Nat.le_of_ble_eq_true rfl, Nat.le_of_ble_eq_true rfl⟩) (hE.1 5 (by decide)) (cq_ld E _ (i := 0) (by decide)) rfl rfl hl.1 [] rfl (Nat.le_of_ble_eq_true rfl) dX4_setLayer_5 ⟨Nat.zero_le _, Nat.zero_le _⟩ (fun H locs hH => ?_)
  refine lv_if_ne (tgt := 14) hx hb dX4_setLayer_8 (by decide) (fun c1 => ?_) (fun c1 => ?_)
  · skip
    obtain ⟨j, hj, rfl⟩ := lhas_ne hnb c1
    have hcl : (nI j).toNatClampNeg = j := nI_clamp (by omega)
    have hln := hE.2.2.2.2.2.1 j (by omega)
    refine lv_aload_n hx hb dX4_setLayer_14 rfl (lv_at hl 0 rfl) ?_
    refine g_get (x := .ref (eAd E 5)) F hH inX4 (hE.1 0 (by decide)) (cq_kiln E _) rfl 2 (by decide) (hts (.fieldLink RX4 26 "DryingKiln" "load" "LDryingKiln$Load;") (by decide +kernel)) (fun _ h => h) rfl dX4_setLayer_15 ?_
    refine lv_iload_n hx hb dX4_setLayer_18 rfl (lv_at hl 1 rfl) ?_
    refine g_vr (As := [.int (nI j)]) F hH (c_X1_boardAt l E hE v 0 j (by decide) hj) (cwV 1 hts gX4_setLayer_X1_boardAt rfl rfl rfl (by decide +kernel) ⟨Nat.le_of_ble_eq_true rfl, Nat.le_of_ble_eq_true rfl⟩) (hE.1 5 (by decide)) (cq_ld E _ (i := 0) (by decide)) rfl rfl hl.1 [] rfl (Nat.le_of_ble_eq_true rfl) dX4_setLayer_19 ⟨Nat.zero_le _, Nat.zero_le _⟩ (fun H locs hH => ?_)
    refine g_get (x := .ref (eAd E (ba 0 j))) F hH inX0 (hE.2.2.2.1 0 j (by decide) hj).1 (cq_bo E _ (by omega)) rfl 0 (by decide) (hts (.fieldLink RX4 75 "DryingKiln$Board" "moisture" "[I") (by decide +kernel)) (fun _ h => h) rfl dX4_setLayer_22 ?_
    refine lv_astore (lv' := [(4, .ref (eAd E (ba 0 j))), (0, .ref (eAd E 0)), (1, .int (nI j)), (2, .int b), (3, .int d)]) hx hb dX4_setLayer_25 hl (by decide) rfl (fun ls hl => ?_)
    refine lv_iload_n hx hb dX4_setLayer_27 rfl (lv_at hl 3 rfl) ?_
    refine lv_if_lt (tgt := 38) hx hb dX4_setLayer_28 (by decide) (fun c2 => ?_) (fun c2 => ?_)
    · skip
      refine lv_ldc (v := -1000002) hx hb hown (hts (.constant RX4 78 (-1000002)) (by decide +kernel)) dX4_setLayer_38 ?_
      exact g_iret F hr hlk hH (by first | rfl | (simp only [kslr, kslm, c1, hcl, c2, if_true, if_false, ↓reduceIte]; done) | (simp only [kslr, kslm, c1, hcl, c2, if_true, if_false, ↓reduceIte]; rfl)) (by first | rfl | (simp only [kslr, kslm, c1, hcl, c2, if_true, if_false, ↓reduceIte]; done) | (simp only [kslr, kslm, c1, hcl, c2, if_true, if_false, ↓reduceIte]; rfl)) dX4_setLayer_40
    · skip
      refine lv_iload_n hx hb dX4_setLayer_31 rfl (lv_at hl 3 rfl) ?_
      refine lv_aload hx hb dX4_setLayer_32 (lv_at hl 0 rfl) ?_
      refine g_alen (n := eLn E j) F hH (hE.2.2.2.1 0 j (by decide) hj).2 (cq_ba E _ (by omega)) dX4_setLayer_34 ?_
      refine lv_icmp_lt (tgt := 41) hx hb dX4_setLayer_35 (by decide) (fun c3 => ?_) (fun c3 => ?_)
      · skip
        obtain ⟨q, hq, rfl⟩ : ∃ q : Nat, q < eLn E j ∧ b = nI q := (by rcases pk_ix b (n := eLn E j) (by omega) with h | h | h; exact absurd h c2; exact absurd c3 (fun z => absurd (Int32.lt_of_lt_of_le z h) (Int32.lt_irrefl)); exact h)
        have hcq : (nI q).toNatClampNeg = q := nI_clamp (by omega)
        refine lv_iload_n hx hb dX4_setLayer_41 rfl (lv_at hl 4 rfl) ?_
        refine lv_iconst (v := 0) hx hb dX4_setLayer_42 (by decide) ?_
        refine lv_sipush (v := 2000) hx hb dX4_setLayer_43 (by decide) ?_
        refine g_si (As := [.int d, .int 0, .int 2000]) F hH (c_X4_isOutside l E hE v d 0 2000) (va_cwS 3 hts gX4_setLayer_X4_isOutside rfl rfl rfl (by decide +kernel) ⟨Nat.le_of_ble_eq_true rfl, Nat.le_of_ble_eq_true rfl⟩) rfl hl.1 [] rfl (Nat.le_of_ble_eq_true rfl) dX4_setLayer_46 ⟨Nat.zero_le _, Nat.zero_le _⟩ (fun H locs hH => ?_)
        refine lv_if_eq (tgt := 55) hx hb dX4_setLayer_49 (by decide) (fun c4 => ?_) (fun c4 => ?_)
        · skip
          refine lv_aload hx hb dX4_setLayer_55 (lv_at hl 0 rfl) ?_
          refine lv_iload_n hx hb dX4_setLayer_57 rfl (lv_at hl 3 rfl) ?_
          refine g_iald (n := eLn E j) (x := v (ba 0 j) q) F hH (hE.2.2.2.1 0 j (by decide) hj).2 (cq_ba E _ (by omega)) q rfl (by omega) (by omega) rfl dX4_setLayer_58 ?_
          refine lv_istore (lv' := [(5, .int (v (ba 0 j) q)), (4, .ref (eAd E (ba 0 j))), (0, .ref (eAd E 0)), (1, .int (nI j)), (2, .int (nI q)), (3, .int d)]) hx hb dX4_setLayer_59 hl (by decide) rfl (fun ls hl => ?_)
          refine lv_aload hx hb dX4_setLayer_61 (lv_at hl 1 rfl) ?_
          refine lv_iload_n hx hb dX4_setLayer_63 rfl (lv_at hl 4 rfl) ?_
          refine lv_iload_n hx hb dX4_setLayer_64 rfl (lv_at hl 5 rfl) ?_
          refine g_iast (n := eLn E j) F hH (hE.2.2.2.1 0 j (by decide) hj).2 (fun _ => cq_ba E _ (by omega)) q rfl (by omega) (by omega) dX4_setLayer_65 (fun H locs hH => ?_)
          refine lv_iload hx hb dX4_setLayer_66 (lv_at hl 0 rfl) ?_
          exact g_iret F hr hlk hH (by first | rfl | (simp only [kslr, kslm, c1, hcl, c2, c3, hcq, c4, if_true, if_false, ↓reduceIte]; done) | (simp only [kslr, kslm, c1, hcl, c2, c3, hcq, c4, if_true, if_false, ↓reduceIte]; rfl)) (by first | rfl | (simp only [kslr, kslm, c1, hcl, c2, c3, hcq, c4, if_true, if_false, ↓reduceIte]; done) | (simp only [kslr, kslm, c1, hcl, c2, c3, hcq, c4, if_true, if_false, ↓reduceIte]; rfl)) dX4_setLayer_68
        · skip
          refine lv_ldc (v := -1000003) hx hb hown (hts (.constant RX4 51 (-1000003)) (by decide +kernel)) dX4_setLayer_52 ?_
          exact g_iret F hr hlk hH (by first | rfl | (simp only [kslr, kslm, c1, hcl, c2, c3, hcq, c4, if_true, if_false, ↓reduceIte]; done) | (simp only [kslr, kslm, c1, hcl, c2, c3, hcq, c4, if_true, if_false, ↓reduceIte]; rfl)) (by first | rfl | (simp only [kslr, kslm, c1, hcl, c2, c3, hcq, c4, if_true, if_false, ↓reduceIte]; done) | (simp only [kslr, kslm, c1, hcl, c2, c3, hcq, c4, if_true, if_false, ↓reduceIte]; rfl)) dX4_setLayer_54
      · skip
        refine lv_ldc (v := -1000002) hx hb hown (hts (.constant RX4 78 (-1000002)) (by decide +kernel)) dX4_setLayer_38 ?_
        exact g_iret F hr hlk hH (by first | rfl | (simp only [kslr, kslm, c1, hcl, c2, c3, if_true, if_false, ↓reduceIte]; done) | (simp only [kslr, kslm, c1, hcl, c2, c3, if_true, if_false, ↓reduceIte]; rfl)) (by first | rfl | (simp only [kslr, kslm, c1, hcl, c2, c3, if_true, if_false, ↓reduceIte]; done) | (simp only [kslr, kslm, c1, hcl, c2, c3, if_true, if_false, ↓reduceIte]; rfl)) dX4_setLayer_40
  · skip
    refine lv_ldc (v := -1000001) hx hb hown (hts (.constant RX4 70 (-1000001)) (by decide +kernel)) dX4_setLayer_11 ?_
    exact g_iret F hr hlk hH (by first | rfl | (simp only [kslr, kslm, c1, if_true, if_false, ↓reduceIte]; done) | (simp only [kslr, kslm, c1, if_true, if_false, ↓reduceIte]; rfl)) (by first | rfl | (simp only [kslr, kslm, c1, if_true, if_false, ↓reduceIte]; done) | (simp only [kslr, kslm, c1, if_true, if_false, ↓reduceIte]; rfl)) dX4_setLayer_13

set_option maxHeartbeats 4000000 in
set_option maxRecDepth 100000 in
theorem c_X4_layerMoisture (l : Launch) (E : Ev) (hE : EO E) (v : Mem) (a : Int32) (b : Int32) : Ci l yX4_layerMoisture wsX4_layerMoisture ({ frames := 4, cells := 0, slots := 0, locals := 85 } : Room) E [.ref (eAd E 0), .int a, .int b] v (klm E v a b) v := by
  refine Ci.of (cc := cX4_layerMoisture) (maxL := 4) (ret := (some .int)) (own := RX4) (by decide) rfl rfl (Nat.le_of_ble_eq_true rfl) ?_
  intro p e s m below meth c F hr hlk ls hl hH
  obtain ⟨hx, hb, hml, hown, hts⟩ := id F.1
  have hl : lv_has ls 4 [(0, .ref (eAd E 0)), (1, .int a), (2, .int b)] := hl
  have inJx4a65c : ∀ w ∈ wsJx4a65c0, w ∈ wsX4_layerMoisture := fun w h => List.mem_cons_of_mem _ (List.mem_append_right _ h)
  have inX0 : ∀ w ∈ wsX00, w ∈ wsX4_layerMoisture := fun w h => List.mem_cons_of_mem _ (List.mem_append_left _ (List.mem_append_left _ (List.mem_append_right _ h)))
  have inX1 : ∀ w ∈ wsX10, w ∈ wsX4_layerMoisture := fun w h => List.mem_cons_of_mem _ (List.mem_append_left _ (List.mem_append_right _ h))
  have inX4 : ∀ w ∈ wsX40, w ∈ wsX4_layerMoisture := fun w h => List.mem_cons_of_mem _ (List.mem_append_left _ (List.mem_append_left _ (List.mem_append_left _ (List.mem_append_right _ h))))
  have hnb := hE.2.2.2.2.1 0 (by decide)
  refine lv_aload_n hx hb dX4_layerMoisture_0 rfl (lv_at hl 0 rfl) ?_
  refine g_get (x := .ref (eAd E 5)) F hH inX4 (hE.1 0 (by decide)) (cq_kiln E _) rfl 2 (by decide) (hts (.fieldLink RX4 26 "DryingKiln" "load" "LDryingKiln$Load;") (by decide +kernel)) (fun _ h => h) rfl dX4_layerMoisture_1 ?_
  refine lv_iload_n hx hb dX4_layerMoisture_4 rfl (lv_at hl 1 rfl) ?_
  refine g_vi (As := [.int a]) F hH (c_X1_has l E hE v 0 a (by first | assumption | omega | decide)) (cwV 1 hts gX4_layerMoisture_X1_has rfl rfl rfl (by decide +kernel) ⟨Nat.le_of_ble_eq_true rfl, Nat.le_of_ble_eq_true rfl⟩) (hE.1 5 (by decide)) (cq_ld E _ (i := 0) (by decide)) rfl rfl hl.1 [] rfl (Nat.le_of_ble_eq_true rfl) dX4_layerMoisture_5 ⟨Nat.zero_le _, Nat.zero_le _⟩ (fun H locs hH => ?_)
  refine lv_if_ne (tgt := 14) hx hb dX4_layerMoisture_8 (by decide) (fun c1 => ?_) (fun c1 => ?_)
  · skip
    obtain ⟨j, hj, rfl⟩ := lhas_ne hnb c1
    have hcl : (nI j).toNatClampNeg = j := nI_clamp (by omega)
    have hln := hE.2.2.2.2.2.1 j (by omega)
    refine lv_aload_n hx hb dX4_layerMoisture_14 rfl (lv_at hl 0 rfl) ?_
    refine g_get (x := .ref (eAd E 5)) F hH inX4 (hE.1 0 (by decide)) (cq_kiln E _) rfl 2 (by decide) (hts (.fieldLink RX4 26 "DryingKiln" "load" "LDryingKiln$Load;") (by decide +kernel)) (fun _ h => h) rfl dX4_layerMoisture_15 ?_
    refine lv_iload_n hx hb dX4_layerMoisture_18 rfl (lv_at hl 1 rfl) ?_
    refine g_vr (As := [.int (nI j)]) F hH (c_X1_boardAt l E hE v 0 j (by decide) hj) (cwV 1 hts gX4_layerMoisture_X1_boardAt rfl rfl rfl (by decide +kernel) ⟨Nat.le_of_ble_eq_true rfl, Nat.le_of_ble_eq_true rfl⟩) (hE.1 5 (by decide)) (cq_ld E _ (i := 0) (by decide)) rfl rfl hl.1 [] rfl (Nat.le_of_ble_eq_true rfl) dX4_layerMoisture_19 ⟨Nat.zero_le _, Nat.zero_le _⟩ (fun H locs hH => ?_)
    refine g_get (x := .ref (eAd E (ba 0 j))) F hH inX0 (hE.2.2.2.1 0 j (by decide) hj).1 (cq_bo E _ (by omega)) rfl 0 (by decide) (hts (.fieldLink RX4 75 "DryingKiln$Board" "moisture" "[I") (by decide +kernel)) (fun _ h => h) rfl dX4_layerMoisture_22 ?_
    refine lv_astore_n (lv' := [(3, .ref (eAd E (ba 0 j))), (0, .ref (eAd E 0)), (1, .int (nI j)), (2, .int b)]) hx hb dX4_layerMoisture_25 rfl hl (by decide) rfl (fun ls hl => ?_)
    refine lv_iload_n hx hb dX4_layerMoisture_26 rfl (lv_at hl 3 rfl) ?_
    refine lv_if_lt (tgt := 42) hx hb dX4_layerMoisture_27 (by decide) (fun c2 => ?_) (fun c2 => ?_)
    · skip
      refine lv_ldc (v := -1000002) hx hb hown (hts (.constant RX4 78 (-1000002)) (by decide +kernel)) dX4_layerMoisture_42 ?_
      exact g_iret F hr hlk hH (by first | rfl | (simp only [klm, c1, hcl, c2, if_true, if_false, ↓reduceIte]; done) | (simp only [klm, c1, hcl, c2, if_true, if_false, ↓reduceIte]; rfl)) (by first | rfl | (simp only [klm, c1, hcl, c2, if_true, if_false, ↓reduceIte]; done) | (simp only [klm, c1, hcl, c2, if_true, if_false, ↓reduceIte]; rfl)) dX4_layerMoisture_44
    · skip
      refine lv_iload_n hx hb dX4_layerMoisture_30 rfl (lv_at hl 3 rfl) ?_
      refine lv_aload_n hx hb dX4_layerMoisture_31 rfl (lv_at hl 0 rfl) ?_
      refine g_alen (n := eLn E j) F hH (hE.2.2.2.1 0 j (by decide) hj).2 (cq_ba E _ (by omega)) dX4_layerMoisture_32 ?_
      refine lv_icmp_ge (tgt := 42) hx hb dX4_layerMoisture_33 (by decide) (fun c3 => ?_) (fun c3 => ?_)
      · skip
        refine lv_ldc (v := -1000002) hx hb hown (hts (.constant RX4 78 (-1000002)) (by decide +kernel)) dX4_layerMoisture_42 ?_
        exact g_iret F hr hlk hH (by first | rfl | (simp only [klm, c1, hcl, c2, c3, if_true, if_false, ↓reduceIte]; done) | (simp only [klm, c1, hcl, c2, c3, if_true, if_false, ↓reduceIte]; rfl)) (by first | rfl | (simp only [klm, c1, hcl, c2, c3, if_true, if_false, ↓reduceIte]; done) | (simp only [klm, c1, hcl, c2, c3, if_true, if_false, ↓reduceIte]; rfl)) dX4_layerMoisture_44
      · skip
        obtain ⟨q, hq, rfl⟩ : ∃ q : Nat, q < eLn E j ∧ b = nI q := (by rcases pk_ix b (n := eLn E j) (by omega) with h | h | h; exact absurd h c2; exact absurd h c3; exact h)
        have hcq : (nI q).toNatClampNeg = q := nI_clamp (by omega)
        refine lv_aload_n hx hb dX4_layerMoisture_36 rfl (lv_at hl 0 rfl) ?_
        refine lv_iload_n hx hb dX4_layerMoisture_37 rfl (lv_at hl 3 rfl) ?_
        refine g_iald (n := eLn E j) (x := v (ba 0 j) q) F hH (hE.2.2.2.1 0 j (by decide) hj).2 (cq_ba E _ (by omega)) q rfl (by omega) (by omega) rfl dX4_layerMoisture_38 ?_
        refine lv_goto (tgt := 44) hx hb dX4_layerMoisture_39 (by decide) ?_
        exact g_iret F hr hlk hH (by first | rfl | (simp only [klm, c1, hcl, c2, c3, hcq, if_true, if_false, ↓reduceIte]; done) | (simp only [klm, c1, hcl, c2, c3, hcq, if_true, if_false, ↓reduceIte]; rfl)) (by first | rfl | (simp only [klm, c1, hcl, c2, c3, hcq, if_true, if_false, ↓reduceIte]; done) | (simp only [klm, c1, hcl, c2, c3, hcq, if_true, if_false, ↓reduceIte]; rfl)) dX4_layerMoisture_44
  · skip
    refine lv_ldc (v := -1000001) hx hb hown (hts (.constant RX4 70 (-1000001)) (by decide +kernel)) dX4_layerMoisture_11 ?_
    exact g_iret F hr hlk hH (by first | rfl | (simp only [klm, c1, if_true, if_false, ↓reduceIte]; done) | (simp only [klm, c1, if_true, if_false, ↓reduceIte]; rfl)) (by first | rfl | (simp only [klm, c1, if_true, if_false, ↓reduceIte]; done) | (simp only [klm, c1, if_true, if_false, ↓reduceIte]; rfl)) dX4_layerMoisture_13

set_option maxHeartbeats 4000000 in
set_option maxRecDepth 100000 in
theorem c_X4_sampleError (l : Launch) (E : Ev) (hE : EO E) (v : Mem) (a : Int32) : Ci l yX4_sampleError wsX4_sampleError ({ frames := 4, cells := 0, slots := 0, locals := 87 } : Room) E [.ref (eAd E 0), .int a] v (kse E v a) v := by
  refine Ci.of (cc := cX4_sampleError) (maxL := 3) (ret := (some .int)) (own := RX4) (by decide) rfl rfl (Nat.le_of_ble_eq_true rfl) ?_
  intro p e s m below meth c F hr hlk ls hl hH
  obtain ⟨hx, hb, hml, hown, hts⟩ := id F.1
  have hl : lv_has ls 3 [(0, .ref (eAd E 0)), (1, .int a)] := hl
  have inJx4a65c : ∀ w ∈ wsJx4a65c0, w ∈ wsX4_sampleError := fun w h => List.mem_cons_of_mem _ (List.mem_append_left _ (List.mem_append_right _ h))
  have inX0 : ∀ w ∈ wsX00, w ∈ wsX4_sampleError := fun w h => List.mem_cons_of_mem _ (List.mem_append_right _ h)
  have inX1 : ∀ w ∈ wsX10, w ∈ wsX4_sampleError := fun w h => List.mem_cons_of_mem _ (List.mem_append_left _ (List.mem_append_left _ (List.mem_append_right _ h)))
  have inX4 : ∀ w ∈ wsX40, w ∈ wsX4_sampleError := fun w h => List.mem_cons_of_mem _ (List.mem_append_left _ (List.mem_append_left _ (List.mem_append_left _ (List.mem_append_right _ h))))
  refine lv_iconst (v := 1) hx hb dX4_sampleError_0 (by decide) ?_
  refine lv_aload_n hx hb dX4_sampleError_1 rfl (lv_at hl 0 rfl) ?_
  refine g_get (x := .ref (eAd E 5)) F hH inX4 (hE.1 0 (by decide)) (cq_kiln E _) rfl 2 (by decide) (hts (.fieldLink RX4 26 "DryingKiln" "load" "LDryingKiln$Load;") (by decide +kernel)) (fun _ h => h) rfl dX4_sampleError_2 ?_
  refine g_vi (As := []) F hH (c_X1_size l E hE v 0 (by first | assumption | omega | decide)) (cwV 0 hts gX4_sampleError_X1_size rfl rfl rfl (by decide +kernel) ⟨Nat.le_of_ble_eq_true rfl, Nat.le_of_ble_eq_true rfl⟩) (hE.1 5 (by decide)) (cq_ld E _ (i := 0) (by decide)) rfl rfl hl.1 [.int 1] rfl (Nat.le_of_ble_eq_true rfl) dX4_sampleError_5 ⟨Nat.zero_le _, Nat.zero_le _⟩ (fun H locs hH => ?_)
  refine lv_ishl hx hb dX4_sampleError_8 ?_
  refine lv_iconst (v := 1) hx hb dX4_sampleError_9 (by decide) ?_
  refine lv_isub hx hb dX4_sampleError_10 ?_
  refine lv_istore_n (lv' := [(2, .int ((1 <<< ((nI (eNb E 0)) &&& 31)) - 1)), (0, .ref (eAd E 0)), (1, .int a)]) hx hb dX4_sampleError_11 rfl hl (by decide) rfl (fun ls hl => ?_)
  refine lv_iload_n hx hb dX4_sampleError_12 rfl (lv_at hl 2 rfl) ?_
  refine lv_if_eq (tgt := 24) hx hb dX4_sampleError_13 (by decide) (fun c1 => ?_) (fun c1 => ?_)
  · skip
    refine lv_ldc (v := -1000003) hx hb hown (hts (.constant RX4 51 (-1000003)) (by decide +kernel)) dX4_sampleError_24 ?_
    exact g_iret F hr hlk hH (by first | rfl | (simp only [kse, kall, c1, if_true, if_false, ↓reduceIte]; done) | (simp only [kse, kall, c1, if_true, if_false, ↓reduceIte]; rfl)) (by first | rfl | (simp only [kse, kall, c1, if_true, if_false, ↓reduceIte]; done) | (simp only [kse, kall, c1, if_true, if_false, ↓reduceIte]; rfl)) dX4_sampleError_26
  · skip
    refine lv_iload_n hx hb dX4_sampleError_16 rfl (lv_at hl 2 rfl) ?_
    refine lv_iload_n hx hb dX4_sampleError_17 rfl (lv_at hl 0 rfl) ?_
    refine lv_iconst (v := -1) hx hb dX4_sampleError_18 (by decide) ?_
    refine lv_ixor hx hb dX4_sampleError_19 ?_
    refine lv_iand hx hb dX4_sampleError_20 ?_
    refine lv_if_eq (tgt := 27) hx hb dX4_sampleError_21 (by decide) (fun c2 => ?_) (fun c2 => ?_)
    · skip
      refine lv_aload_n hx hb dX4_sampleError_27 rfl (lv_at hl 1 rfl) ?_
      refine g_get (x := .ref (eAd E 5)) F hH inX4 (hE.1 0 (by decide)) (cq_kiln E _) rfl 2 (by decide) (hts (.fieldLink RX4 26 "DryingKiln" "load" "LDryingKiln$Load;") (by decide +kernel)) (fun _ h => h) rfl dX4_sampleError_28 ?_
      refine lv_iload_n hx hb dX4_sampleError_31 rfl (lv_at hl 2 rfl) ?_
      refine g_vi (As := [.int a]) F hH (c_X1_meanOf l E hE v 0 a (by first | assumption | omega | decide)) (cwV 1 hts gX4_sampleError_X1_meanOf rfl rfl rfl (by decide +kernel) ⟨Nat.le_of_ble_eq_true rfl, Nat.le_of_ble_eq_true rfl⟩) (hE.1 5 (by decide)) (cq_ld E _ (i := 0) (by decide)) rfl rfl hl.1 [] rfl (Nat.le_of_ble_eq_true rfl) dX4_sampleError_32 ⟨Nat.zero_le _, Nat.zero_le _⟩ (fun H locs hH => ?_)
      refine lv_aload_n hx hb dX4_sampleError_35 rfl (lv_at hl 1 rfl) ?_
      refine g_get (x := .ref (eAd E 5)) F hH inX4 (hE.1 0 (by decide)) (cq_kiln E _) rfl 2 (by decide) (hts (.fieldLink RX4 26 "DryingKiln" "load" "LDryingKiln$Load;") (by decide +kernel)) (fun _ h => h) rfl dX4_sampleError_36 ?_
      refine lv_iload_n hx hb dX4_sampleError_39 rfl (lv_at hl 0 rfl) ?_
      refine g_vi (As := [.int ((1 <<< ((nI (eNb E 0)) &&& 31)) - 1)]) F hH (c_X1_meanOf l E hE v 0 ((1 <<< ((nI (eNb E 0)) &&& 31)) - 1) (by first | assumption | omega | decide)) (cwV 1 hts gX4_sampleError_X1_meanOf rfl rfl rfl (by decide +kernel) ⟨Nat.le_of_ble_eq_true rfl, Nat.le_of_ble_eq_true rfl⟩) (hE.1 5 (by decide)) (cq_ld E _ (i := 0) (by decide)) rfl rfl hl.1 [.int (lmean E v 0 a)] rfl (Nat.le_of_ble_eq_true rfl) dX4_sampleError_40 ⟨Nat.zero_le _, Nat.zero_le _⟩ (fun H locs hH => ?_)
      refine lv_isub hx hb dX4_sampleError_43 ?_
      exact g_iret F hr hlk hH (by first | rfl | (simp only [kse, kall, c1, c2, if_true, if_false, ↓reduceIte]; done) | (simp only [kse, kall, c1, c2, if_true, if_false, ↓reduceIte]; rfl)) (by first | rfl | (simp only [kse, kall, c1, c2, if_true, if_false, ↓reduceIte]; done) | (simp only [kse, kall, c1, c2, if_true, if_false, ↓reduceIte]; rfl)) dX4_sampleError_44
    · skip
      refine lv_ldc (v := -1000003) hx hb hown (hts (.constant RX4 51 (-1000003)) (by decide +kernel)) dX4_sampleError_24 ?_
      exact g_iret F hr hlk hH (by first | rfl | (simp only [kse, kall, c1, c2, if_true, if_false, ↓reduceIte]; done) | (simp only [kse, kall, c1, c2, if_true, if_false, ↓reduceIte]; rfl)) (by first | rfl | (simp only [kse, kall, c1, c2, if_true, if_false, ↓reduceIte]; done) | (simp only [kse, kall, c1, c2, if_true, if_false, ↓reduceIte]; rfl)) dX4_sampleError_26

set_option maxHeartbeats 4000000 in
set_option maxRecDepth 100000 in
theorem c_X4_setDiffusion (l : Launch) (E : Ev) (hE : EO E) (v : Mem) (a : Int32) : Ci l yX4_setDiffusion wsX4_setDiffusion ({ frames := 1, cells := 0, slots := 0, locals := 22 } : Room) E [.ref (eAd E 0), .int a] v (ksr v 0 a 1 250) (ksm v 0 a 1 250) := by
  refine Ci.of (cc := cX4_setDiffusion) (maxL := 3) (ret := (some .int)) (own := RX4) (by decide) rfl rfl (Nat.le_of_ble_eq_true rfl) ?_
  intro p e s m below meth c F hr hlk ls hl hH
  obtain ⟨hx, hb, hml, hown, hts⟩ := id F.1
  have hl : lv_has ls 3 [(0, .ref (eAd E 0)), (1, .int a)] := hl
  have inX3 : ∀ w ∈ wsX30, w ∈ wsX4_setDiffusion := fun w h => List.mem_cons_of_mem _ (List.mem_append_right _ h)
  have inX4 : ∀ w ∈ wsX40, w ∈ wsX4_setDiffusion := fun w h => List.mem_cons_of_mem _ (List.mem_append_left _ (List.mem_append_right _ h))
  refine lv_iload_n hx hb dX4_setDiffusion_0 rfl (lv_at hl 1 rfl) ?_
  refine lv_iconst (v := 1) hx hb dX4_setDiffusion_1 (by decide) ?_
  refine lv_sipush (v := 250) hx hb dX4_setDiffusion_2 (by decide) ?_
  refine g_si (As := [.int a, .int 1, .int 250]) F hH (c_X4_isOutside l E hE v a 1 250) (va_cwS 3 hts gX4_setDiffusion_X4_isOutside rfl rfl rfl (by decide +kernel) ⟨Nat.le_of_ble_eq_true rfl, Nat.le_of_ble_eq_true rfl⟩) rfl hl.1 [] rfl (Nat.le_of_ble_eq_true rfl) dX4_setDiffusion_5 ⟨Nat.zero_le _, Nat.zero_le _⟩ (fun H locs hH => ?_)
  refine lv_if_eq (tgt := 14) hx hb dX4_setDiffusion_8 (by decide) (fun c1 => ?_) (fun c1 => ?_)
  · skip
    refine lv_aload_n hx hb dX4_setDiffusion_14 rfl (lv_at hl 0 rfl) ?_
    refine g_get (x := .ref (eAd E 1)) F hH inX4 (hE.1 0 (by decide)) (cq_kiln E _) rfl 0 (by decide) (hts (.fieldLink RX4 10 "DryingKiln" "settings" "LDryingKiln$Settings;") (by decide +kernel)) (fun _ h => h) rfl dX4_setDiffusion_15 ?_
    refine g_get (x := .int (v 1 0)) F hH inX3 (hE.1 1 (by decide)) (cq_set E _) rfl 0 (by decide) (hts (.fieldLink RX4 98 "DryingKiln$Settings" "diffusion" "I") (by decide +kernel)) (fun _ h => h) rfl dX4_setDiffusion_18 ?_
    refine lv_istore_n (lv' := [(2, .int (v 1 0)), (0, .ref (eAd E 0)), (1, .int a)]) hx hb dX4_setDiffusion_21 rfl hl (by decide) rfl (fun ls hl => ?_)
    refine lv_aload_n hx hb dX4_setDiffusion_22 rfl (lv_at hl 1 rfl) ?_
    refine g_get (x := .ref (eAd E 1)) F hH inX4 (hE.1 0 (by decide)) (cq_kiln E _) rfl 0 (by decide) (hts (.fieldLink RX4 10 "DryingKiln" "settings" "LDryingKiln$Settings;") (by decide +kernel)) (fun _ h => h) rfl dX4_setDiffusion_23 ?_
    refine lv_iload_n hx hb dX4_setDiffusion_26 rfl (lv_at hl 2 rfl) ?_
    refine g_put (ty := .int) (x := a) F hH inX3 tyX3 tyX3_ok nmX3 (hE.1 1 (by decide)) (cq_set E _) rfl 0 (by decide) (hts (.fieldLink RX4 98 "DryingKiln$Settings" "diffusion" "I") (by decide +kernel)) (fun _ h => h) rfl (by decide +kernel) rfl rfl (Nat.le_of_ble_eq_true rfl) (cq_set E _) dX4_setDiffusion_27 (fun H locs hH => ?_)
    refine lv_iload_n hx hb dX4_setDiffusion_30 rfl (lv_at hl 0 rfl) ?_
    exact g_iret F hr hlk hH (by first | rfl | (simp only [ksr, ksm, c1, if_true, if_false, ↓reduceIte]; done) | (simp only [ksr, ksm, c1, if_true, if_false, ↓reduceIte]; rfl)) (by first | rfl | (simp only [ksr, ksm, c1, if_true, if_false, ↓reduceIte]; done) | (simp only [ksr, ksm, c1, if_true, if_false, ↓reduceIte]; rfl)) dX4_setDiffusion_31
  · skip
    refine lv_ldc (v := -1000003) hx hb hown (hts (.constant RX4 51 (-1000003)) (by decide +kernel)) dX4_setDiffusion_11 ?_
    exact g_iret F hr hlk hH (by first | rfl | (simp only [ksr, ksm, c1, if_true, if_false, ↓reduceIte]; done) | (simp only [ksr, ksm, c1, if_true, if_false, ↓reduceIte]; rfl)) (by first | rfl | (simp only [ksr, ksm, c1, if_true, if_false, ↓reduceIte]; done) | (simp only [ksr, ksm, c1, if_true, if_false, ↓reduceIte]; rfl)) dX4_setDiffusion_13

set_option maxHeartbeats 4000000 in
set_option maxRecDepth 100000 in
theorem c_X4_setSurface (l : Launch) (E : Ev) (hE : EO E) (v : Mem) (a : Int32) : Ci l yX4_setSurface wsX4_setSurface ({ frames := 1, cells := 0, slots := 0, locals := 22 } : Room) E [.ref (eAd E 0), .int a] v (ksr v 1 a 1 500) (ksm v 1 a 1 500) := by
  refine Ci.of (cc := cX4_setSurface) (maxL := 3) (ret := (some .int)) (own := RX4) (by decide) rfl rfl (Nat.le_of_ble_eq_true rfl) ?_
  intro p e s m below meth c F hr hlk ls hl hH
  obtain ⟨hx, hb, hml, hown, hts⟩ := id F.1
  have hl : lv_has ls 3 [(0, .ref (eAd E 0)), (1, .int a)] := hl
  have inX3 : ∀ w ∈ wsX30, w ∈ wsX4_setSurface := fun w h => List.mem_cons_of_mem _ (List.mem_append_right _ h)
  have inX4 : ∀ w ∈ wsX40, w ∈ wsX4_setSurface := fun w h => List.mem_cons_of_mem _ (List.mem_append_left _ (List.mem_append_right _ h))
  refine lv_iload_n hx hb dX4_setSurface_0 rfl (lv_at hl 1 rfl) ?_
  refine lv_iconst (v := 1) hx hb dX4_setSurface_1 (by decide) ?_
  refine lv_sipush (v := 500) hx hb dX4_setSurface_2 (by decide) ?_
  refine g_si (As := [.int a, .int 1, .int 500]) F hH (c_X4_isOutside l E hE v a 1 500) (va_cwS 3 hts gX4_setSurface_X4_isOutside rfl rfl rfl (by decide +kernel) ⟨Nat.le_of_ble_eq_true rfl, Nat.le_of_ble_eq_true rfl⟩) rfl hl.1 [] rfl (Nat.le_of_ble_eq_true rfl) dX4_setSurface_5 ⟨Nat.zero_le _, Nat.zero_le _⟩ (fun H locs hH => ?_)
  refine lv_if_eq (tgt := 14) hx hb dX4_setSurface_8 (by decide) (fun c1 => ?_) (fun c1 => ?_)
  · skip
    refine lv_aload_n hx hb dX4_setSurface_14 rfl (lv_at hl 0 rfl) ?_
    refine g_get (x := .ref (eAd E 1)) F hH inX4 (hE.1 0 (by decide)) (cq_kiln E _) rfl 0 (by decide) (hts (.fieldLink RX4 10 "DryingKiln" "settings" "LDryingKiln$Settings;") (by decide +kernel)) (fun _ h => h) rfl dX4_setSurface_15 ?_
    refine g_get (x := .int (v 1 1)) F hH inX3 (hE.1 1 (by decide)) (cq_set E _) rfl 1 (by decide) (hts (.fieldLink RX4 101 "DryingKiln$Settings" "surface" "I") (by decide +kernel)) (fun _ h => h) rfl dX4_setSurface_18 ?_
    refine lv_istore_n (lv' := [(2, .int (v 1 1)), (0, .ref (eAd E 0)), (1, .int a)]) hx hb dX4_setSurface_21 rfl hl (by decide) rfl (fun ls hl => ?_)
    refine lv_aload_n hx hb dX4_setSurface_22 rfl (lv_at hl 1 rfl) ?_
    refine g_get (x := .ref (eAd E 1)) F hH inX4 (hE.1 0 (by decide)) (cq_kiln E _) rfl 0 (by decide) (hts (.fieldLink RX4 10 "DryingKiln" "settings" "LDryingKiln$Settings;") (by decide +kernel)) (fun _ h => h) rfl dX4_setSurface_23 ?_
    refine lv_iload_n hx hb dX4_setSurface_26 rfl (lv_at hl 2 rfl) ?_
    refine g_put (ty := .int) (x := a) F hH inX3 tyX3 tyX3_ok nmX3 (hE.1 1 (by decide)) (cq_set E _) rfl 1 (by decide) (hts (.fieldLink RX4 101 "DryingKiln$Settings" "surface" "I") (by decide +kernel)) (fun _ h => h) rfl (by decide +kernel) rfl rfl (Nat.le_of_ble_eq_true rfl) (cq_set E _) dX4_setSurface_27 (fun H locs hH => ?_)
    refine lv_iload_n hx hb dX4_setSurface_30 rfl (lv_at hl 0 rfl) ?_
    exact g_iret F hr hlk hH (by first | rfl | (simp only [ksr, ksm, c1, if_true, if_false, ↓reduceIte]; done) | (simp only [ksr, ksm, c1, if_true, if_false, ↓reduceIte]; rfl)) (by first | rfl | (simp only [ksr, ksm, c1, if_true, if_false, ↓reduceIte]; done) | (simp only [ksr, ksm, c1, if_true, if_false, ↓reduceIte]; rfl)) dX4_setSurface_31
  · skip
    refine lv_ldc (v := -1000003) hx hb hown (hts (.constant RX4 51 (-1000003)) (by decide +kernel)) dX4_setSurface_11 ?_
    exact g_iret F hr hlk hH (by first | rfl | (simp only [ksr, ksm, c1, if_true, if_false, ↓reduceIte]; done) | (simp only [ksr, ksm, c1, if_true, if_false, ↓reduceIte]; rfl)) (by first | rfl | (simp only [ksr, ksm, c1, if_true, if_false, ↓reduceIte]; done) | (simp only [ksr, ksm, c1, if_true, if_false, ↓reduceIte]; rfl)) dX4_setSurface_13

set_option maxHeartbeats 4000000 in
set_option maxRecDepth 100000 in
theorem c_X4_setCapacity (l : Launch) (E : Ev) (hE : EO E) (v : Mem) (a : Int32) : Ci l yX4_setCapacity wsX4_setCapacity ({ frames := 1, cells := 0, slots := 0, locals := 22 } : Room) E [.ref (eAd E 0), .int a] v (ksr v 2 a 1 10000) (ksm v 2 a 1 10000) := by
  refine Ci.of (cc := cX4_setCapacity) (maxL := 3) (ret := (some .int)) (own := RX4) (by decide) rfl rfl (Nat.le_of_ble_eq_true rfl) ?_
  intro p e s m below meth c F hr hlk ls hl hH
  obtain ⟨hx, hb, hml, hown, hts⟩ := id F.1
  have hl : lv_has ls 3 [(0, .ref (eAd E 0)), (1, .int a)] := hl
  have inX3 : ∀ w ∈ wsX30, w ∈ wsX4_setCapacity := fun w h => List.mem_cons_of_mem _ (List.mem_append_right _ h)
  have inX4 : ∀ w ∈ wsX40, w ∈ wsX4_setCapacity := fun w h => List.mem_cons_of_mem _ (List.mem_append_left _ (List.mem_append_right _ h))
  refine lv_iload_n hx hb dX4_setCapacity_0 rfl (lv_at hl 1 rfl) ?_
  refine lv_iconst (v := 1) hx hb dX4_setCapacity_1 (by decide) ?_
  refine lv_sipush (v := 10000) hx hb dX4_setCapacity_2 (by decide) ?_
  refine g_si (As := [.int a, .int 1, .int 10000]) F hH (c_X4_isOutside l E hE v a 1 10000) (va_cwS 3 hts gX4_setCapacity_X4_isOutside rfl rfl rfl (by decide +kernel) ⟨Nat.le_of_ble_eq_true rfl, Nat.le_of_ble_eq_true rfl⟩) rfl hl.1 [] rfl (Nat.le_of_ble_eq_true rfl) dX4_setCapacity_5 ⟨Nat.zero_le _, Nat.zero_le _⟩ (fun H locs hH => ?_)
  refine lv_if_eq (tgt := 14) hx hb dX4_setCapacity_8 (by decide) (fun c1 => ?_) (fun c1 => ?_)
  · skip
    refine lv_aload_n hx hb dX4_setCapacity_14 rfl (lv_at hl 0 rfl) ?_
    refine g_get (x := .ref (eAd E 1)) F hH inX4 (hE.1 0 (by decide)) (cq_kiln E _) rfl 0 (by decide) (hts (.fieldLink RX4 10 "DryingKiln" "settings" "LDryingKiln$Settings;") (by decide +kernel)) (fun _ h => h) rfl dX4_setCapacity_15 ?_
    refine g_get (x := .int (v 1 2)) F hH inX3 (hE.1 1 (by decide)) (cq_set E _) rfl 2 (by decide) (hts (.fieldLink RX4 104 "DryingKiln$Settings" "capacity" "I") (by decide +kernel)) (fun _ h => h) rfl dX4_setCapacity_18 ?_
    refine lv_istore_n (lv' := [(2, .int (v 1 2)), (0, .ref (eAd E 0)), (1, .int a)]) hx hb dX4_setCapacity_21 rfl hl (by decide) rfl (fun ls hl => ?_)
    refine lv_aload_n hx hb dX4_setCapacity_22 rfl (lv_at hl 1 rfl) ?_
    refine g_get (x := .ref (eAd E 1)) F hH inX4 (hE.1 0 (by decide)) (cq_kiln E _) rfl 0 (by decide) (hts (.fieldLink RX4 10 "DryingKiln" "settings" "LDryingKiln$Settings;") (by decide +kernel)) (fun _ h => h) rfl dX4_setCapacity_23 ?_
    refine lv_iload_n hx hb dX4_setCapacity_26 rfl (lv_at hl 2 rfl) ?_
    refine g_put (ty := .int) (x := a) F hH inX3 tyX3 tyX3_ok nmX3 (hE.1 1 (by decide)) (cq_set E _) rfl 2 (by decide) (hts (.fieldLink RX4 104 "DryingKiln$Settings" "capacity" "I") (by decide +kernel)) (fun _ h => h) rfl (by decide +kernel) rfl rfl (Nat.le_of_ble_eq_true rfl) (cq_set E _) dX4_setCapacity_27 (fun H locs hH => ?_)
    refine lv_iload_n hx hb dX4_setCapacity_30 rfl (lv_at hl 0 rfl) ?_
    exact g_iret F hr hlk hH (by first | rfl | (simp only [ksr, ksm, c1, if_true, if_false, ↓reduceIte]; done) | (simp only [ksr, ksm, c1, if_true, if_false, ↓reduceIte]; rfl)) (by first | rfl | (simp only [ksr, ksm, c1, if_true, if_false, ↓reduceIte]; done) | (simp only [ksr, ksm, c1, if_true, if_false, ↓reduceIte]; rfl)) dX4_setCapacity_31
  · skip
    refine lv_ldc (v := -1000003) hx hb hown (hts (.constant RX4 51 (-1000003)) (by decide +kernel)) dX4_setCapacity_11 ?_
    exact g_iret F hr hlk hH (by first | rfl | (simp only [ksr, ksm, c1, if_true, if_false, ↓reduceIte]; done) | (simp only [ksr, ksm, c1, if_true, if_false, ↓reduceIte]; rfl)) (by first | rfl | (simp only [ksr, ksm, c1, if_true, if_false, ↓reduceIte]; done) | (simp only [ksr, ksm, c1, if_true, if_false, ↓reduceIte]; rfl)) dX4_setCapacity_13

set_option maxHeartbeats 4000000 in
set_option maxRecDepth 100000 in
theorem c_X4_setStrainLimit (l : Launch) (E : Ev) (hE : EO E) (v : Mem) (a : Int32) : Ci l yX4_setStrainLimit wsX4_setStrainLimit ({ frames := 1, cells := 0, slots := 0, locals := 22 } : Room) E [.ref (eAd E 0), .int a] v (ksr v 3 a 20 900) (ksm v 3 a 20 900) := by
  refine Ci.of (cc := cX4_setStrainLimit) (maxL := 3) (ret := (some .int)) (own := RX4) (by decide) rfl rfl (Nat.le_of_ble_eq_true rfl) ?_
  intro p e s m below meth c F hr hlk ls hl hH
  obtain ⟨hx, hb, hml, hown, hts⟩ := id F.1
  have hl : lv_has ls 3 [(0, .ref (eAd E 0)), (1, .int a)] := hl
  have inX3 : ∀ w ∈ wsX30, w ∈ wsX4_setStrainLimit := fun w h => List.mem_cons_of_mem _ (List.mem_append_right _ h)
  have inX4 : ∀ w ∈ wsX40, w ∈ wsX4_setStrainLimit := fun w h => List.mem_cons_of_mem _ (List.mem_append_left _ (List.mem_append_right _ h))
  refine lv_iload_n hx hb dX4_setStrainLimit_0 rfl (lv_at hl 1 rfl) ?_
  refine lv_bipush (v := 20) hx hb dX4_setStrainLimit_1 (by decide) ?_
  refine lv_sipush (v := 900) hx hb dX4_setStrainLimit_3 (by decide) ?_
  refine g_si (As := [.int a, .int 20, .int 900]) F hH (c_X4_isOutside l E hE v a 20 900) (va_cwS 3 hts gX4_setStrainLimit_X4_isOutside rfl rfl rfl (by decide +kernel) ⟨Nat.le_of_ble_eq_true rfl, Nat.le_of_ble_eq_true rfl⟩) rfl hl.1 [] rfl (Nat.le_of_ble_eq_true rfl) dX4_setStrainLimit_6 ⟨Nat.zero_le _, Nat.zero_le _⟩ (fun H locs hH => ?_)
  refine lv_if_eq (tgt := 15) hx hb dX4_setStrainLimit_9 (by decide) (fun c1 => ?_) (fun c1 => ?_)
  · skip
    refine lv_aload_n hx hb dX4_setStrainLimit_15 rfl (lv_at hl 0 rfl) ?_
    refine g_get (x := .ref (eAd E 1)) F hH inX4 (hE.1 0 (by decide)) (cq_kiln E _) rfl 0 (by decide) (hts (.fieldLink RX4 10 "DryingKiln" "settings" "LDryingKiln$Settings;") (by decide +kernel)) (fun _ h => h) rfl dX4_setStrainLimit_16 ?_
    refine g_get (x := .int (v 1 3)) F hH inX3 (hE.1 1 (by decide)) (cq_set E _) rfl 3 (by decide) (hts (.fieldLink RX4 107 "DryingKiln$Settings" "strainLimit" "I") (by decide +kernel)) (fun _ h => h) rfl dX4_setStrainLimit_19 ?_
    refine lv_istore_n (lv' := [(2, .int (v 1 3)), (0, .ref (eAd E 0)), (1, .int a)]) hx hb dX4_setStrainLimit_22 rfl hl (by decide) rfl (fun ls hl => ?_)
    refine lv_aload_n hx hb dX4_setStrainLimit_23 rfl (lv_at hl 1 rfl) ?_
    refine g_get (x := .ref (eAd E 1)) F hH inX4 (hE.1 0 (by decide)) (cq_kiln E _) rfl 0 (by decide) (hts (.fieldLink RX4 10 "DryingKiln" "settings" "LDryingKiln$Settings;") (by decide +kernel)) (fun _ h => h) rfl dX4_setStrainLimit_24 ?_
    refine lv_iload_n hx hb dX4_setStrainLimit_27 rfl (lv_at hl 2 rfl) ?_
    refine g_put (ty := .int) (x := a) F hH inX3 tyX3 tyX3_ok nmX3 (hE.1 1 (by decide)) (cq_set E _) rfl 3 (by decide) (hts (.fieldLink RX4 107 "DryingKiln$Settings" "strainLimit" "I") (by decide +kernel)) (fun _ h => h) rfl (by decide +kernel) rfl rfl (Nat.le_of_ble_eq_true rfl) (cq_set E _) dX4_setStrainLimit_28 (fun H locs hH => ?_)
    refine lv_iload_n hx hb dX4_setStrainLimit_31 rfl (lv_at hl 0 rfl) ?_
    exact g_iret F hr hlk hH (by first | rfl | (simp only [ksr, ksm, c1, if_true, if_false, ↓reduceIte]; done) | (simp only [ksr, ksm, c1, if_true, if_false, ↓reduceIte]; rfl)) (by first | rfl | (simp only [ksr, ksm, c1, if_true, if_false, ↓reduceIte]; done) | (simp only [ksr, ksm, c1, if_true, if_false, ↓reduceIte]; rfl)) dX4_setStrainLimit_32
  · skip
    refine lv_ldc (v := -1000003) hx hb hown (hts (.constant RX4 51 (-1000003)) (by decide +kernel)) dX4_setStrainLimit_12 ?_
    exact g_iret F hr hlk hH (by first | rfl | (simp only [ksr, ksm, c1, if_true, if_false, ↓reduceIte]; done) | (simp only [ksr, ksm, c1, if_true, if_false, ↓reduceIte]; rfl)) (by first | rfl | (simp only [ksr, ksm, c1, if_true, if_false, ↓reduceIte]; done) | (simp only [ksr, ksm, c1, if_true, if_false, ↓reduceIte]; rfl)) dX4_setStrainLimit_14

set_option maxHeartbeats 4000000 in
set_option maxRecDepth 100000 in
theorem c_X4_setHumidity (l : Launch) (E : Ev) (hE : EO E) (v : Mem) (a : Int32) : Ci l yX4_setHumidity wsX4_setHumidity ({ frames := 1, cells := 0, slots := 0, locals := 22 } : Room) E [.ref (eAd E 0), .int a] v (ksr v 4 a 0 300) (ksm v 4 a 0 300) := by
  refine Ci.of (cc := cX4_setHumidity) (maxL := 3) (ret := (some .int)) (own := RX4) (by decide) rfl rfl (Nat.le_of_ble_eq_true rfl) ?_
  intro p e s m below meth c F hr hlk ls hl hH
  obtain ⟨hx, hb, hml, hown, hts⟩ := id F.1
  have hl : lv_has ls 3 [(0, .ref (eAd E 0)), (1, .int a)] := hl
  have inX3 : ∀ w ∈ wsX30, w ∈ wsX4_setHumidity := fun w h => List.mem_cons_of_mem _ (List.mem_append_right _ h)
  have inX4 : ∀ w ∈ wsX40, w ∈ wsX4_setHumidity := fun w h => List.mem_cons_of_mem _ (List.mem_append_left _ (List.mem_append_right _ h))
  refine lv_iload_n hx hb dX4_setHumidity_0 rfl (lv_at hl 1 rfl) ?_
  refine lv_iconst (v := 0) hx hb dX4_setHumidity_1 (by decide) ?_
  refine lv_sipush (v := 300) hx hb dX4_setHumidity_2 (by decide) ?_
  refine g_si (As := [.int a, .int 0, .int 300]) F hH (c_X4_isOutside l E hE v a 0 300) (va_cwS 3 hts gX4_setHumidity_X4_isOutside rfl rfl rfl (by decide +kernel) ⟨Nat.le_of_ble_eq_true rfl, Nat.le_of_ble_eq_true rfl⟩) rfl hl.1 [] rfl (Nat.le_of_ble_eq_true rfl) dX4_setHumidity_5 ⟨Nat.zero_le _, Nat.zero_le _⟩ (fun H locs hH => ?_)
  refine lv_if_eq (tgt := 14) hx hb dX4_setHumidity_8 (by decide) (fun c1 => ?_) (fun c1 => ?_)
  · skip
    refine lv_aload_n hx hb dX4_setHumidity_14 rfl (lv_at hl 0 rfl) ?_
    refine g_get (x := .ref (eAd E 1)) F hH inX4 (hE.1 0 (by decide)) (cq_kiln E _) rfl 0 (by decide) (hts (.fieldLink RX4 10 "DryingKiln" "settings" "LDryingKiln$Settings;") (by decide +kernel)) (fun _ h => h) rfl dX4_setHumidity_15 ?_
    refine g_get (x := .int (v 1 4)) F hH inX3 (hE.1 1 (by decide)) (cq_set E _) rfl 4 (by decide) (hts (.fieldLink RX4 110 "DryingKiln$Settings" "humidity" "I") (by decide +kernel)) (fun _ h => h) rfl dX4_setHumidity_18 ?_
    refine lv_istore_n (lv' := [(2, .int (v 1 4)), (0, .ref (eAd E 0)), (1, .int a)]) hx hb dX4_setHumidity_21 rfl hl (by decide) rfl (fun ls hl => ?_)
    refine lv_aload_n hx hb dX4_setHumidity_22 rfl (lv_at hl 1 rfl) ?_
    refine g_get (x := .ref (eAd E 1)) F hH inX4 (hE.1 0 (by decide)) (cq_kiln E _) rfl 0 (by decide) (hts (.fieldLink RX4 10 "DryingKiln" "settings" "LDryingKiln$Settings;") (by decide +kernel)) (fun _ h => h) rfl dX4_setHumidity_23 ?_
    refine lv_iload_n hx hb dX4_setHumidity_26 rfl (lv_at hl 2 rfl) ?_
    refine g_put (ty := .int) (x := a) F hH inX3 tyX3 tyX3_ok nmX3 (hE.1 1 (by decide)) (cq_set E _) rfl 4 (by decide) (hts (.fieldLink RX4 110 "DryingKiln$Settings" "humidity" "I") (by decide +kernel)) (fun _ h => h) rfl (by decide +kernel) rfl rfl (Nat.le_of_ble_eq_true rfl) (cq_set E _) dX4_setHumidity_27 (fun H locs hH => ?_)
    refine lv_iload_n hx hb dX4_setHumidity_30 rfl (lv_at hl 0 rfl) ?_
    exact g_iret F hr hlk hH (by first | rfl | (simp only [ksr, ksm, c1, if_true, if_false, ↓reduceIte]; done) | (simp only [ksr, ksm, c1, if_true, if_false, ↓reduceIte]; rfl)) (by first | rfl | (simp only [ksr, ksm, c1, if_true, if_false, ↓reduceIte]; done) | (simp only [ksr, ksm, c1, if_true, if_false, ↓reduceIte]; rfl)) dX4_setHumidity_31
  · skip
    refine lv_ldc (v := -1000003) hx hb hown (hts (.constant RX4 51 (-1000003)) (by decide +kernel)) dX4_setHumidity_11 ?_
    exact g_iret F hr hlk hH (by first | rfl | (simp only [ksr, ksm, c1, if_true, if_false, ↓reduceIte]; done) | (simp only [ksr, ksm, c1, if_true, if_false, ↓reduceIte]; rfl)) (by first | rfl | (simp only [ksr, ksm, c1, if_true, if_false, ↓reduceIte]; done) | (simp only [ksr, ksm, c1, if_true, if_false, ↓reduceIte]; rfl)) dX4_setHumidity_13

set_option maxHeartbeats 4000000 in
set_option maxRecDepth 100000 in
theorem c_X4_setReversalPeriod (l : Launch) (E : Ev) (hE : EO E) (v : Mem) (a : Int32) : Ci l yX4_setReversalPeriod wsX4_setReversalPeriod ({ frames := 1, cells := 0, slots := 0, locals := 22 } : Room) E [.ref (eAd E 0), .int a] v (ksr v 5 a 0 48) (ksm v 5 a 0 48) := by
  refine Ci.of (cc := cX4_setReversalPeriod) (maxL := 3) (ret := (some .int)) (own := RX4) (by decide) rfl rfl (Nat.le_of_ble_eq_true rfl) ?_
  intro p e s m below meth c F hr hlk ls hl hH
  obtain ⟨hx, hb, hml, hown, hts⟩ := id F.1
  have hl : lv_has ls 3 [(0, .ref (eAd E 0)), (1, .int a)] := hl
  have inX3 : ∀ w ∈ wsX30, w ∈ wsX4_setReversalPeriod := fun w h => List.mem_cons_of_mem _ (List.mem_append_right _ h)
  have inX4 : ∀ w ∈ wsX40, w ∈ wsX4_setReversalPeriod := fun w h => List.mem_cons_of_mem _ (List.mem_append_left _ (List.mem_append_right _ h))
  refine lv_iload_n hx hb dX4_setReversalPeriod_0 rfl (lv_at hl 1 rfl) ?_
  refine lv_iconst (v := 0) hx hb dX4_setReversalPeriod_1 (by decide) ?_
  refine lv_bipush (v := 48) hx hb dX4_setReversalPeriod_2 (by decide) ?_
  refine g_si (As := [.int a, .int 0, .int 48]) F hH (c_X4_isOutside l E hE v a 0 48) (va_cwS 3 hts gX4_setReversalPeriod_X4_isOutside rfl rfl rfl (by decide +kernel) ⟨Nat.le_of_ble_eq_true rfl, Nat.le_of_ble_eq_true rfl⟩) rfl hl.1 [] rfl (Nat.le_of_ble_eq_true rfl) dX4_setReversalPeriod_4 ⟨Nat.zero_le _, Nat.zero_le _⟩ (fun H locs hH => ?_)
  refine lv_if_eq (tgt := 13) hx hb dX4_setReversalPeriod_7 (by decide) (fun c1 => ?_) (fun c1 => ?_)
  · skip
    refine lv_aload_n hx hb dX4_setReversalPeriod_13 rfl (lv_at hl 0 rfl) ?_
    refine g_get (x := .ref (eAd E 1)) F hH inX4 (hE.1 0 (by decide)) (cq_kiln E _) rfl 0 (by decide) (hts (.fieldLink RX4 10 "DryingKiln" "settings" "LDryingKiln$Settings;") (by decide +kernel)) (fun _ h => h) rfl dX4_setReversalPeriod_14 ?_
    refine g_get (x := .int (v 1 5)) F hH inX3 (hE.1 1 (by decide)) (cq_set E _) rfl 5 (by decide) (hts (.fieldLink RX4 117 "DryingKiln$Settings" "reversalPeriod" "I") (by decide +kernel)) (fun _ h => h) rfl dX4_setReversalPeriod_17 ?_
    refine lv_istore_n (lv' := [(2, .int (v 1 5)), (0, .ref (eAd E 0)), (1, .int a)]) hx hb dX4_setReversalPeriod_20 rfl hl (by decide) rfl (fun ls hl => ?_)
    refine lv_aload_n hx hb dX4_setReversalPeriod_21 rfl (lv_at hl 1 rfl) ?_
    refine g_get (x := .ref (eAd E 1)) F hH inX4 (hE.1 0 (by decide)) (cq_kiln E _) rfl 0 (by decide) (hts (.fieldLink RX4 10 "DryingKiln" "settings" "LDryingKiln$Settings;") (by decide +kernel)) (fun _ h => h) rfl dX4_setReversalPeriod_22 ?_
    refine lv_iload_n hx hb dX4_setReversalPeriod_25 rfl (lv_at hl 2 rfl) ?_
    refine g_put (ty := .int) (x := a) F hH inX3 tyX3 tyX3_ok nmX3 (hE.1 1 (by decide)) (cq_set E _) rfl 5 (by decide) (hts (.fieldLink RX4 117 "DryingKiln$Settings" "reversalPeriod" "I") (by decide +kernel)) (fun _ h => h) rfl (by decide +kernel) rfl rfl (Nat.le_of_ble_eq_true rfl) (cq_set E _) dX4_setReversalPeriod_26 (fun H locs hH => ?_)
    refine lv_iload_n hx hb dX4_setReversalPeriod_29 rfl (lv_at hl 0 rfl) ?_
    exact g_iret F hr hlk hH (by first | rfl | (simp only [ksr, ksm, c1, if_true, if_false, ↓reduceIte]; done) | (simp only [ksr, ksm, c1, if_true, if_false, ↓reduceIte]; rfl)) (by first | rfl | (simp only [ksr, ksm, c1, if_true, if_false, ↓reduceIte]; done) | (simp only [ksr, ksm, c1, if_true, if_false, ↓reduceIte]; rfl)) dX4_setReversalPeriod_30
  · skip
    refine lv_ldc (v := -1000003) hx hb hown (hts (.constant RX4 51 (-1000003)) (by decide +kernel)) dX4_setReversalPeriod_10 ?_
    exact g_iret F hr hlk hH (by first | rfl | (simp only [ksr, ksm, c1, if_true, if_false, ↓reduceIte]; done) | (simp only [ksr, ksm, c1, if_true, if_false, ↓reduceIte]; rfl)) (by first | rfl | (simp only [ksr, ksm, c1, if_true, if_false, ↓reduceIte]; done) | (simp only [ksr, ksm, c1, if_true, if_false, ↓reduceIte]; rfl)) dX4_setReversalPeriod_12

set_option maxHeartbeats 4000000 in
set_option maxRecDepth 100000 in
theorem c_X4_setFan (l : Launch) (E : Ev) (hE : EO E) (v : Mem) (a : Int32) (ha : isB a) : Ci l yX4_setFan wsX4_setFan ({ frames := 0, cells := 0, slots := 0, locals := 0 } : Room) E [.ref (eAd E 0), .int a] v (if v 5 0 = a then 0 else 1) (st v 5 0 a) := by
  refine Ci.of (cc := cX4_setFan) (maxL := 3) (ret := (some .int)) (own := RX4) (by decide) rfl rfl (Nat.le_of_ble_eq_true rfl) ?_
  intro p e s m below meth c F hr hlk ls hl hH
  obtain ⟨hx, hb, hml, hown, hts⟩ := id F.1
  have hl : lv_has ls 3 [(0, .ref (eAd E 0)), (1, .int a)] := hl
  have inX1 : ∀ w ∈ wsX10, w ∈ wsX4_setFan := fun w h => List.mem_cons_of_mem _ (List.mem_append_right _ h)
  have inX4 : ∀ w ∈ wsX40, w ∈ wsX4_setFan := fun w h => List.mem_cons_of_mem _ (List.mem_append_left _ (List.mem_append_right _ h))
  refine lv_aload_n hx hb dX4_setFan_0 rfl (lv_at hl 0 rfl) ?_
  refine g_get (x := .ref (eAd E 5)) F hH inX4 (hE.1 0 (by decide)) (cq_kiln E _) rfl 2 (by decide) (hts (.fieldLink RX4 26 "DryingKiln" "load" "LDryingKiln$Load;") (by decide +kernel)) (fun _ h => h) rfl dX4_setFan_1 ?_
  refine g_get (x := .int (v 5 0)) F hH inX1 (hE.1 5 (by decide)) (cq_ld E _ (i := 0) (by decide)) rfl 0 (by decide) (hts (.fieldLink RX4 113 "DryingKiln$Load" "reversed" "Z") (by decide +kernel)) (fun _ h => h) rfl dX4_setFan_4 ?_
  refine lv_iload_n hx hb dX4_setFan_7 rfl (lv_at hl 1 rfl) ?_
  refine lv_icmp_eq (tgt := 15) hx hb dX4_setFan_8 (by decide) (fun c1 => ?_) (fun c1 => ?_)
  · skip
    refine lv_iconst (v := 0) hx hb dX4_setFan_15 (by decide) ?_
    refine lv_istore_n (lv' := [(2, .int 0), (0, .ref (eAd E 0)), (1, .int a)]) hx hb dX4_setFan_16 rfl hl (by decide) rfl (fun ls hl => ?_)
    refine lv_aload_n hx hb dX4_setFan_17 rfl (lv_at hl 1 rfl) ?_
    refine g_get (x := .ref (eAd E 5)) F hH inX4 (hE.1 0 (by decide)) (cq_kiln E _) rfl 2 (by decide) (hts (.fieldLink RX4 26 "DryingKiln" "load" "LDryingKiln$Load;") (by decide +kernel)) (fun _ h => h) rfl dX4_setFan_18 ?_
    refine lv_iload_n hx hb dX4_setFan_21 rfl (lv_at hl 2 rfl) ?_
    refine g_put (ty := .boolean) (x := a) F hH inX1 tyX1 tyX1_ok nmX1 (hE.1 5 (by decide)) (cq_ld E _ (i := 0) (by decide)) rfl 0 (by decide) (hts (.fieldLink RX4 113 "DryingKiln$Load" "reversed" "Z") (by decide +kernel)) (fun _ h => h) rfl (by decide +kernel) ha.n ha.f (Nat.le_of_ble_eq_true rfl) (cq_ld E _ (i := 0) (by decide)) dX4_setFan_22 (fun H locs hH => ?_)
    refine lv_iload_n hx hb dX4_setFan_25 rfl (lv_at hl 0 rfl) ?_
    refine lv_if_eq (tgt := 33) hx hb dX4_setFan_26 (by decide) (fun c2 => ?_) (fun c2 => ?_)
    · skip
      refine lv_iconst (v := 0) hx hb dX4_setFan_33 (by decide) ?_
      exact g_iret F hr hlk hH (by first | rfl | (simp only [c1, c2, if_true, if_false, ↓reduceIte]; done) | (simp only [c1, c2, if_true, if_false, ↓reduceIte]; rfl)) (by first | rfl | (simp only [c1, c2, if_true, if_false, ↓reduceIte]; done) | (simp only [c1, c2, if_true, if_false, ↓reduceIte]; rfl)) dX4_setFan_34
    · skip
      exact absurd (by decide) c2
  · skip
    refine lv_iconst (v := 1) hx hb dX4_setFan_11 (by decide) ?_
    refine lv_goto (tgt := 16) hx hb dX4_setFan_12 (by decide) ?_
    refine lv_istore_n (lv' := [(2, .int 1), (0, .ref (eAd E 0)), (1, .int a)]) hx hb dX4_setFan_16 rfl hl (by decide) rfl (fun ls hl => ?_)
    refine lv_aload_n hx hb dX4_setFan_17 rfl (lv_at hl 1 rfl) ?_
    refine g_get (x := .ref (eAd E 5)) F hH inX4 (hE.1 0 (by decide)) (cq_kiln E _) rfl 2 (by decide) (hts (.fieldLink RX4 26 "DryingKiln" "load" "LDryingKiln$Load;") (by decide +kernel)) (fun _ h => h) rfl dX4_setFan_18 ?_
    refine lv_iload_n hx hb dX4_setFan_21 rfl (lv_at hl 2 rfl) ?_
    refine g_put (ty := .boolean) (x := a) F hH inX1 tyX1 tyX1_ok nmX1 (hE.1 5 (by decide)) (cq_ld E _ (i := 0) (by decide)) rfl 0 (by decide) (hts (.fieldLink RX4 113 "DryingKiln$Load" "reversed" "Z") (by decide +kernel)) (fun _ h => h) rfl (by decide +kernel) ha.n ha.f (Nat.le_of_ble_eq_true rfl) (cq_ld E _ (i := 0) (by decide)) dX4_setFan_22 (fun H locs hH => ?_)
    refine lv_iload_n hx hb dX4_setFan_25 rfl (lv_at hl 0 rfl) ?_
    refine lv_if_eq (tgt := 33) hx hb dX4_setFan_26 (by decide) (fun c3 => ?_) (fun c3 => ?_)
    · skip
      exact absurd c3 (by decide)
    · skip
      refine lv_iconst (v := 1) hx hb dX4_setFan_29 (by decide) ?_
      refine lv_goto (tgt := 34) hx hb dX4_setFan_30 (by decide) ?_
      exact g_iret F hr hlk hH (by first | rfl | (simp only [c1, c3, if_true, if_false, ↓reduceIte]; done) | (simp only [c1, c3, if_true, if_false, ↓reduceIte]; rfl)) (by first | rfl | (simp only [c1, c3, if_true, if_false, ↓reduceIte]; done) | (simp only [c1, c3, if_true, if_false, ↓reduceIte]; rfl)) dX4_setFan_34

set_option maxHeartbeats 4000000 in
set_option maxRecDepth 100000 in
theorem c_X4_isFanReversed (l : Launch) (E : Ev) (hE : EO E) (v : Mem) : Ci l yX4_isFanReversed wsX4_isFanReversed ({ frames := 0, cells := 0, slots := 0, locals := 0 } : Room) E [.ref (eAd E 0)] v (if v 5 0 = 0 then 0 else 1) v := by
  refine Ci.of (cc := cX4_isFanReversed) (maxL := 1) (ret := (some .int)) (own := RX4) (by decide) rfl rfl (Nat.le_of_ble_eq_true rfl) ?_
  intro p e s m below meth c F hr hlk ls hl hH
  obtain ⟨hx, hb, hml, hown, hts⟩ := id F.1
  have hl : lv_has ls 1 [(0, .ref (eAd E 0))] := hl
  have inX1 : ∀ w ∈ wsX10, w ∈ wsX4_isFanReversed := fun w h => List.mem_cons_of_mem _ (List.mem_append_right _ h)
  have inX4 : ∀ w ∈ wsX40, w ∈ wsX4_isFanReversed := fun w h => List.mem_cons_of_mem _ (List.mem_append_left _ (List.mem_append_right _ h))
  refine lv_aload_n hx hb dX4_isFanReversed_0 rfl (lv_at hl 0 rfl) ?_
  refine g_get (x := .ref (eAd E 5)) F hH inX4 (hE.1 0 (by decide)) (cq_kiln E _) rfl 2 (by decide) (hts (.fieldLink RX4 26 "DryingKiln" "load" "LDryingKiln$Load;") (by decide +kernel)) (fun _ h => h) rfl dX4_isFanReversed_1 ?_
  refine g_get (x := .int (v 5 0)) F hH inX1 (hE.1 5 (by decide)) (cq_ld E _ (i := 0) (by decide)) rfl 0 (by decide) (hts (.fieldLink RX4 113 "DryingKiln$Load" "reversed" "Z") (by decide +kernel)) (fun _ h => h) rfl dX4_isFanReversed_4 ?_
  refine lv_if_eq (tgt := 14) hx hb dX4_isFanReversed_7 (by decide) (fun c1 => ?_) (fun c1 => ?_)
  · skip
    refine lv_iconst (v := 0) hx hb dX4_isFanReversed_14 (by decide) ?_
    exact g_iret F hr hlk hH (by first | rfl | (simp only [c1, if_true, if_false, ↓reduceIte]; done) | (simp only [c1, if_true, if_false, ↓reduceIte]; rfl)) (by first | rfl | (simp only [c1, if_true, if_false, ↓reduceIte]; done) | (simp only [c1, if_true, if_false, ↓reduceIte]; rfl)) dX4_isFanReversed_15
  · skip
    refine lv_iconst (v := 1) hx hb dX4_isFanReversed_10 (by decide) ?_
    refine lv_goto (tgt := 15) hx hb dX4_isFanReversed_11 (by decide) ?_
    exact g_iret F hr hlk hH (by first | rfl | (simp only [c1, if_true, if_false, ↓reduceIte]; done) | (simp only [c1, if_true, if_false, ↓reduceIte]; rfl)) (by first | rfl | (simp only [c1, if_true, if_false, ↓reduceIte]; done) | (simp only [c1, if_true, if_false, ↓reduceIte]; rfl)) dX4_isFanReversed_15

set_option maxHeartbeats 4000000 in
set_option maxRecDepth 100000 in
theorem c_X4_hour (l : Launch) (E : Ev) (hE : EO E) (v : Mem) : Ci l yX4_hour wsX4_hour ({ frames := 0, cells := 0, slots := 0, locals := 0 } : Room) E [.ref (eAd E 0)] v (v 0 6) v := by
  refine Ci.of (cc := cX4_hour) (maxL := 1) (ret := (some .int)) (own := RX4) (by decide) rfl rfl (Nat.le_of_ble_eq_true rfl) ?_
  intro p e s m below meth c F hr hlk ls hl hH
  obtain ⟨hx, hb, hml, hown, hts⟩ := id F.1
  have hl : lv_has ls 1 [(0, .ref (eAd E 0))] := hl
  have inX4 : ∀ w ∈ wsX40, w ∈ wsX4_hour := fun w h => List.mem_cons_of_mem _ (List.mem_append_right _ h)
  refine lv_aload_n hx hb dX4_hour_0 rfl (lv_at hl 0 rfl) ?_
  refine g_get (x := .int (v 0 6)) F hH inX4 (hE.1 0 (by decide)) (cq_kiln E _) rfl 6 (by decide) (hts (.fieldLink RX4 40 "DryingKiln" "hoursRun" "I") (by decide +kernel)) (fun _ h => h) rfl dX4_hour_1 ?_
  exact g_iret F hr hlk hH (by first | rfl | (simp only [if_true, if_false, ↓reduceIte]; done) | (simp only [if_true, if_false, ↓reduceIte]; rfl)) (by first | rfl | (simp only [if_true, if_false, ↓reduceIte]; done) | (simp only [if_true, if_false, ↓reduceIte]; rfl)) dX4_hour_4

set_option maxHeartbeats 4000000 in
set_option maxRecDepth 100000 in
theorem c_X4_evaporated (l : Launch) (E : Ev) (hE : EO E) (v : Mem) : Ci l yX4_evaporated wsX4_evaporated ({ frames := 0, cells := 0, slots := 0, locals := 0 } : Room) E [.ref (eAd E 0)] v (v 0 7) v := by
  refine Ci.of (cc := cX4_evaporated) (maxL := 1) (ret := (some .int)) (own := RX4) (by decide) rfl rfl (Nat.le_of_ble_eq_true rfl) ?_
  intro p e s m below meth c F hr hlk ls hl hH
  obtain ⟨hx, hb, hml, hown, hts⟩ := id F.1
  have hl : lv_has ls 1 [(0, .ref (eAd E 0))] := hl
  have inX4 : ∀ w ∈ wsX40, w ∈ wsX4_evaporated := fun w h => List.mem_cons_of_mem _ (List.mem_append_right _ h)
  refine lv_aload_n hx hb dX4_evaporated_0 rfl (lv_at hl 0 rfl) ?_
  refine g_get (x := .int (v 0 7)) F hH inX4 (hE.1 0 (by decide)) (cq_kiln E _) rfl 7 (by decide) (hts (.fieldLink RX4 44 "DryingKiln" "waterGivenOff" "I") (by decide +kernel)) (fun _ h => h) rfl dX4_evaporated_1 ?_
  exact g_iret F hr hlk hH (by first | rfl | (simp only [if_true, if_false, ↓reduceIte]; done) | (simp only [if_true, if_false, ↓reduceIte]; rfl)) (by first | rfl | (simp only [if_true, if_false, ↓reduceIte]; done) | (simp only [if_true, if_false, ↓reduceIte]; rfl)) dX4_evaporated_4

set_option maxHeartbeats 4000000 in
set_option maxRecDepth 100000 in
theorem c_X4_endHour (l : Launch) (E : Ev) (hE : EO E) (v : Mem) : Ci l yX4_endHour wsX4_endHour ({ frames := 4, cells := 0, slots := 0, locals := 89 } : Room) E [.ref (eAd E 0)] v ((kend E v).2) ((kend E v).1) := by
  refine Ci.of (cc := cX4_endHour) (maxL := 1) (ret := (some .int)) (own := RX4) (by decide) rfl rfl (Nat.le_of_ble_eq_true rfl) ?_
  intro p e s m below meth c F hr hlk ls hl hH
  obtain ⟨hx, hb, hml, hown, hts⟩ := id F.1
  have hl : lv_has ls 1 [(0, .ref (eAd E 0))] := hl
  have inJx4a65c : ∀ w ∈ wsJx4a65c0, w ∈ wsX4_endHour := fun w h => List.mem_cons_of_mem _ (List.mem_append_right _ h)
  have inX0 : ∀ w ∈ wsX00, w ∈ wsX4_endHour := fun w h => List.mem_cons_of_mem _ (List.mem_append_left _ (List.mem_append_right _ h))
  have inX1 : ∀ w ∈ wsX10, w ∈ wsX4_endHour := fun w h => List.mem_cons_of_mem _ (List.mem_append_left _ (List.mem_append_left _ (List.mem_append_right _ h)))
  have inX3 : ∀ w ∈ wsX30, w ∈ wsX4_endHour := fun w h => List.mem_cons_of_mem _ (List.mem_append_left _ (List.mem_append_left _ (List.mem_append_left _ (List.mem_append_right _ h))))
  have inX4 : ∀ w ∈ wsX40, w ∈ wsX4_endHour := fun w h => List.mem_cons_of_mem _ (List.mem_append_left _ (List.mem_append_left _ (List.mem_append_left _ (List.mem_append_left _ (List.mem_append_right _ h)))))
  refine lv_aload_n hx hb dX4_endHour_0 rfl (lv_at hl 0 rfl) ?_
  refine lv_dup hx hb dX4_endHour_1 rfl ?_
  refine g_get (x := .int (v 0 6)) F hH inX4 (hE.1 0 (by decide)) (cq_kiln E _) rfl 6 (by decide) (hts (.fieldLink RX4 40 "DryingKiln" "hoursRun" "I") (by decide +kernel)) (fun _ h => h) rfl dX4_endHour_2 ?_
  refine lv_iconst (v := 1) hx hb dX4_endHour_5 (by decide) ?_
  refine lv_iadd hx hb dX4_endHour_6 ?_
  refine g_put (ty := .int) (x := (v 0 6) + 1) F hH inX4 tyX4 tyX4_ok nmX4 (hE.1 0 (by decide)) (cq_kiln E _) rfl 6 (by decide) (hts (.fieldLink RX4 40 "DryingKiln" "hoursRun" "I") (by decide +kernel)) (fun _ h => h) rfl (by decide +kernel) rfl rfl (Nat.le_of_ble_eq_true rfl) (cq_kiln E _) dX4_endHour_7 (fun H locs hH => ?_)
  refine lv_aload_n hx hb dX4_endHour_10 rfl (lv_at hl 0 rfl) ?_
  refine g_get (x := .ref (eAd E 5)) F hH inX4 (hE.1 0 (by decide)) (cq_kiln E _) rfl 2 (by decide) (hts (.fieldLink RX4 26 "DryingKiln" "load" "LDryingKiln$Load;") (by decide +kernel)) (fun _ h => h) rfl dX4_endHour_11 ?_
  refine lv_aload_n hx hb dX4_endHour_14 rfl (lv_at hl 0 rfl) ?_
  refine g_get (x := .ref (eAd E 1)) F hH inX4 (hE.1 0 (by decide)) (cq_kiln E _) rfl 0 (by decide) (hts (.fieldLink RX4 10 "DryingKiln" "settings" "LDryingKiln$Settings;") (by decide +kernel)) (fun _ h => h) rfl dX4_endHour_15 ?_
  refine g_get (x := .int ((st v 0 6 ((v 0 6) + 1)) 1 3)) F hH inX3 (hE.1 1 (by decide)) (cq_set E _) rfl 3 (by decide) (hts (.fieldLink RX4 107 "DryingKiln$Settings" "strainLimit" "I") (by decide +kernel)) (fun _ h => h) rfl dX4_endHour_18 ?_
  rw [show (st v 0 6 ((v 0 6) + 1)) 1 3 = v 1 3 by rw [st_ne _ _ _ (by decide)]]
  refine lv_aload_n hx hb dX4_endHour_21 rfl (lv_at hl 0 rfl) ?_
  refine g_get (x := .int ((st v 0 6 ((v 0 6) + 1)) 0 6)) F hH inX4 (hE.1 0 (by decide)) (cq_kiln E _) rfl 6 (by decide) (hts (.fieldLink RX4 40 "DryingKiln" "hoursRun" "I") (by decide +kernel)) (fun _ h => h) rfl dX4_endHour_22 ?_
  rw [show (st v 0 6 ((v 0 6) + 1)) 0 6 = (v 0 6) + 1 by rw [st_at]]
  refine g_vi (As := [.int (v 1 3), .int ((v 0 6) + 1)]) F hH (c_X1_recordChecks l E hE (st v 0 6 ((v 0 6) + 1)) 0 (v 1 3) ((v 0 6) + 1) (by first | assumption | omega | decide)) (cwV 2 hts gX4_endHour_X1_recordChecks rfl rfl rfl (by decide +kernel) ⟨Nat.le_of_ble_eq_true rfl, Nat.le_of_ble_eq_true rfl⟩) (hE.1 5 (by decide)) (cq_ld E _ (i := 0) (by decide)) rfl rfl hl.1 [] rfl (Nat.le_of_ble_eq_true rfl) dX4_endHour_25 ⟨Nat.zero_le _, Nat.zero_le _⟩ (fun H locs hH => ?_)
  exact g_iret F hr hlk hH rfl rfl dX4_endHour_28

set_option maxHeartbeats 4000000 in
set_option maxRecDepth 100000 in
theorem c_X4_runDryingHour (l : Launch) (E : Ev) (hE : EO E) (v : Mem) (a : Int32) : Ci l yX4_runDryingHour wsX4_runDryingHour ({ frames := 5, cells := 0, slots := 0, locals := 109 } : Room) E [.ref (eAd E 0), .int a] v (lgiv E 0 a v) (krh E a v) := by
  refine Ci.of (cc := cX4_runDryingHour) (maxL := 3) (ret := (some .int)) (own := RX4) (by decide) rfl rfl (Nat.le_of_ble_eq_true rfl) ?_
  intro p e s m below meth c F hr hlk ls hl hH
  obtain ⟨hx, hb, hml, hown, hts⟩ := id F.1
  have hl : lv_has ls 3 [(0, .ref (eAd E 0)), (1, .int a)] := hl
  have inJx4a65c : ∀ w ∈ wsJx4a65c0, w ∈ wsX4_runDryingHour := fun w h => List.mem_cons_of_mem _ (List.mem_append_left _ (List.mem_append_right _ h))
  have inX0 : ∀ w ∈ wsX00, w ∈ wsX4_runDryingHour := fun w h => List.mem_cons_of_mem _ (List.mem_append_right _ h)
  have inX1 : ∀ w ∈ wsX10, w ∈ wsX4_runDryingHour := fun w h => List.mem_cons_of_mem _ (List.mem_append_left _ (List.mem_append_left _ (List.mem_append_left _ (List.mem_append_right _ h))))
  have inX3 : ∀ w ∈ wsX30, w ∈ wsX4_runDryingHour := fun w h => List.mem_cons_of_mem _ (List.mem_append_left _ (List.mem_append_left _ (List.mem_append_right _ h)))
  have inX4 : ∀ w ∈ wsX40, w ∈ wsX4_runDryingHour := fun w h => List.mem_cons_of_mem _ (List.mem_append_left _ (List.mem_append_left _ (List.mem_append_left _ (List.mem_append_left _ (List.mem_append_right _ h)))))
  refine lv_aload_n hx hb dX4_runDryingHour_0 rfl (lv_at hl 0 rfl) ?_
  refine g_get (x := .ref (eAd E 5)) F hH inX4 (hE.1 0 (by decide)) (cq_kiln E _) rfl 2 (by decide) (hts (.fieldLink RX4 26 "DryingKiln" "load" "LDryingKiln$Load;") (by decide +kernel)) (fun _ h => h) rfl dX4_runDryingHour_1 ?_
  refine lv_iload_n hx hb dX4_runDryingHour_4 rfl (lv_at hl 1 rfl) ?_
  refine lv_aload_n hx hb dX4_runDryingHour_5 rfl (lv_at hl 0 rfl) ?_
  refine g_get (x := .ref (eAd E 1)) F hH inX4 (hE.1 0 (by decide)) (cq_kiln E _) rfl 0 (by decide) (hts (.fieldLink RX4 10 "DryingKiln" "settings" "LDryingKiln$Settings;") (by decide +kernel)) (fun _ h => h) rfl dX4_runDryingHour_6 ?_
  refine g_vi (As := [.int a, .ref (eAd E 1)]) F hH (c_X1_passDryingHour l E hE v 0 a (by first | assumption | omega | decide)) (cwV 2 hts gX4_runDryingHour_X1_passDryingHour rfl rfl rfl (by decide +kernel) ⟨Nat.le_of_ble_eq_true rfl, Nat.le_of_ble_eq_true rfl⟩) (hE.1 5 (by decide)) (cq_ld E _ (i := 0) (by decide)) rfl rfl hl.1 [] rfl (Nat.le_of_ble_eq_true rfl) dX4_runDryingHour_9 ⟨Nat.zero_le _, Nat.zero_le _⟩ (fun H locs hH => ?_)
  refine lv_istore_n (lv' := [(2, .int (lgiv E 0 a v)), (0, .ref (eAd E 0)), (1, .int a)]) hx hb dX4_runDryingHour_12 rfl hl (by decide) rfl (fun ls hl => ?_)
  refine lv_aload_n hx hb dX4_runDryingHour_13 rfl (lv_at hl 1 rfl) ?_
  refine lv_dup hx hb dX4_runDryingHour_14 rfl ?_
  refine g_get (x := .int ((ldry E 0 a v) 0 7)) F hH inX4 (hE.1 0 (by decide)) (cq_kiln E _) rfl 7 (by decide) (hts (.fieldLink RX4 44 "DryingKiln" "waterGivenOff" "I") (by decide +kernel)) (fun _ h => h) rfl dX4_runDryingHour_15 ?_
  rw [show (ldry E 0 a v) 0 7 = v 0 7 from congrFun (ldry_lo E _ _ (by decide) (by decide)) _]
  refine lv_iload_n hx hb dX4_runDryingHour_18 rfl (lv_at hl 0 rfl) ?_
  refine lv_iadd hx hb dX4_runDryingHour_19 ?_
  refine g_put (ty := .int) (x := (v 0 7) + (lgiv E 0 a v)) F hH inX4 tyX4 tyX4_ok nmX4 (hE.1 0 (by decide)) (cq_kiln E _) rfl 7 (by decide) (hts (.fieldLink RX4 44 "DryingKiln" "waterGivenOff" "I") (by decide +kernel)) (fun _ h => h) rfl (by decide +kernel) rfl rfl (Nat.le_of_ble_eq_true rfl) (cq_kiln E _) dX4_runDryingHour_20 (fun H locs hH => ?_)
  refine lv_aload_n hx hb dX4_runDryingHour_23 rfl (lv_at hl 1 rfl) ?_
  refine g_vi (As := []) F hH (c_X4_endHour l E hE (st (ldry E 0 a v) 0 7 ((v 0 7) + (lgiv E 0 a v)))) (cwV 0 hts gX4_runDryingHour_X4_endHour rfl rfl rfl (by decide +kernel) ⟨Nat.le_of_ble_eq_true rfl, Nat.le_of_ble_eq_true rfl⟩) (hE.1 0 (by decide)) (cq_kiln E _) rfl rfl hl.1 [] rfl (Nat.le_of_ble_eq_true rfl) dX4_runDryingHour_24 ⟨Nat.zero_le _, Nat.zero_le _⟩ (fun H locs hH => ?_)
  refine lv_pop hx hb dX4_runDryingHour_27 rfl ?_
  refine lv_iload_n hx hb dX4_runDryingHour_28 rfl (lv_at hl 0 rfl) ?_
  exact g_iret F hr hlk hH rfl rfl dX4_runDryingHour_29

set_option maxHeartbeats 4000000 in
set_option maxRecDepth 100000 in
theorem c_X4_dry (l : Launch) (E : Ev) (hE : EO E) (v : Mem) (a : Int32) : Ci l yX4_dry wsX4_dry ({ frames := 6, cells := 0, slots := 0, locals := 131 } : Room) E [.ref (eAd E 0), .int a] v (kdr E v a) (kdm E v a) := by
  refine Ci.of (cc := cX4_dry) (maxL := 4) (ret := (some .int)) (own := RX4) (by decide) rfl rfl (Nat.le_of_ble_eq_true rfl) ?_
  intro p e s m below meth c F hr hlk ls hl hH
  obtain ⟨hx, hb, hml, hown, hts⟩ := id F.1
  have hl : lv_has ls 4 [(0, .ref (eAd E 0)), (1, .int a)] := hl
  have inJx4a65c : ∀ w ∈ wsJx4a65c0, w ∈ wsX4_dry := fun w h => List.mem_cons_of_mem _ (List.mem_append_left _ (List.mem_append_right _ h))
  have inX0 : ∀ w ∈ wsX00, w ∈ wsX4_dry := fun w h => List.mem_cons_of_mem _ (List.mem_append_right _ h)
  have inX1 : ∀ w ∈ wsX10, w ∈ wsX4_dry := fun w h => List.mem_cons_of_mem _ (List.mem_append_left _ (List.mem_append_left _ (List.mem_append_right _ h)))
  have inX3 : ∀ w ∈ wsX30, w ∈ wsX4_dry := fun w h => List.mem_cons_of_mem _ (List.mem_append_left _ (List.mem_append_left _ (List.mem_append_left _ (List.mem_append_right _ h))))
  have inX4 : ∀ w ∈ wsX40, w ∈ wsX4_dry := fun w h => List.mem_cons_of_mem _ (List.mem_append_left _ (List.mem_append_left _ (List.mem_append_left _ (List.mem_append_left _ (List.mem_append_right _ h)))))
  refine lv_iload_n hx hb dX4_dry_0 rfl (lv_at hl 1 rfl) ?_
  refine lv_iconst (v := 1) hx hb dX4_dry_1 (by decide) ?_
  refine lv_sipush (v := 200) hx hb dX4_dry_2 (by decide) ?_
  refine g_si (As := [.int a, .int 1, .int 200]) F hH (c_X4_isOutside l E hE v a 1 200) (va_cwS 3 hts gX4_dry_X4_isOutside rfl rfl rfl (by decide +kernel) ⟨Nat.le_of_ble_eq_true rfl, Nat.le_of_ble_eq_true rfl⟩) rfl hl.1 [] rfl (Nat.le_of_ble_eq_true rfl) dX4_dry_5 ⟨Nat.zero_le _, Nat.zero_le _⟩ (fun H locs hH => ?_)
  refine lv_if_eq (tgt := 14) hx hb dX4_dry_8 (by decide) (fun c1 => ?_) (fun c1 => ?_)
  · skip
    obtain ⟨N, hN, rfl⟩ := out_200 c1
    have hcl : (nI N).toNatClampNeg = N := nI_clamp (by omega)
    refine lv_iconst (v := 0) hx hb dX4_dry_14 (by decide) ?_
    refine lv_istore_n (lv' := [(2, .int 0), (0, .ref (eAd E 0)), (1, .int (nI N))]) hx hb dX4_dry_15 rfl hl (by decide) rfl (fun ls hl => ?_)
    refine lv_iconst (v := 0) hx hb dX4_dry_16 (by decide) ?_
    refine lv_istore_n (lv' := [(3, .int 0), (2, .int 0), (0, .ref (eAd E 0)), (1, .int (nI N))]) hx hb dX4_dry_17 rfl hl (by decide) rfl (fun ls hl => ?_)
    have loop18 : ∀ (n t : Nat), t + n = N → ∀ (H : Heap) (locs : List Loc) (ls : Array Slot), HS E s.heap ((kdp E v t).1) H locs → lv_has ls 4 [(0, .ref (eAd E 0)), (1, .int (nI N)), (2, .int ((kdp E v t).2)), (3, .int (nI t))] → W p l e ({ frames := 6, cells := 0, slots := 0, locals := 131 } : Room) s m ([.ref (eAd E 0), .int (nI N)] : List Value).toArray below meth c H locs 0 0 (Zi below E ([.ref (eAd E 0), .int (nI N)] : List Value).toArray s (kdr E v (nI N)) (kdm E v (nI N))) (F0 m 18 ls []) := by
      intro n
      induction n with
      | zero =>
        intro t ht H locs ls hH hl
        obtain rfl : N = t := by omega
        refine lv_iload_n hx hb dX4_dry_18 rfl (lv_at hl 3 rfl) ?_
        refine lv_iload_n hx hb dX4_dry_19 rfl (lv_at hl 1 rfl) ?_
        refine lv_icmp_ge (tgt := 43) hx hb dX4_dry_20 (by decide) (fun c2 => ?_) (fun c2 => ?_)
        · skip
          refine lv_iload_n hx hb dX4_dry_43 rfl (lv_at hl 2 rfl) ?_
          exact g_iret F hr hlk hH (by first | rfl | (simp only [kdr, kdm, c1, hcl, c2, if_true, if_false, ↓reduceIte]; done) | (simp only [kdr, kdm, c1, hcl, c2, if_true, if_false, ↓reduceIte]; rfl)) (by first | rfl | (simp only [kdr, kdm, c1, hcl, c2, if_true, if_false, ↓reduceIte]; done) | (simp only [kdr, kdm, c1, hcl, c2, if_true, if_false, ↓reduceIte]; rfl)) dX4_dry_44
        · skip
          exact absurd (nI_le (Nat.le_refl _) (by omega)) c2
      | succ n ih =>
        intro t ht H locs ls hH hl
        have htN : t < N := by omega
        refine lv_iload_n hx hb dX4_dry_18 rfl (lv_at hl 3 rfl) ?_
        refine lv_iload_n hx hb dX4_dry_19 rfl (lv_at hl 1 rfl) ?_
        refine lv_icmp_ge (tgt := 43) hx hb dX4_dry_20 (by decide) (fun c3 => ?_) (fun c3 => ?_)
        · skip
          exact absurd c3 (nI_ge htN (by omega))
        · skip
          refine lv_iload_n hx hb dX4_dry_23 rfl (lv_at hl 2 rfl) ?_
          refine lv_aload_n hx hb dX4_dry_24 rfl (lv_at hl 0 rfl) ?_
          refine lv_aload_n hx hb dX4_dry_25 rfl (lv_at hl 0 rfl) ?_
          refine g_get (x := .ref (eAd E 1)) F hH inX4 (hE.1 0 (by decide)) (cq_kiln E _) rfl 0 (by decide) (hts (.fieldLink RX4 10 "DryingKiln" "settings" "LDryingKiln$Settings;") (by decide +kernel)) (fun _ h => h) rfl dX4_dry_26 ?_
          refine g_get (x := .int (((kdp E v t).1) 1 4)) F hH inX3 (hE.1 1 (by decide)) (cq_set E _) rfl 4 (by decide) (hts (.fieldLink RX4 110 "DryingKiln$Settings" "humidity" "I") (by decide +kernel)) (fun _ h => h) rfl dX4_dry_29 ?_
          refine g_vi (As := [.int (((kdp E v t).1) 1 4)]) F hH (c_X4_runDryingHour l E hE ((kdp E v t).1) (((kdp E v t).1) 1 4)) (cwV 1 hts gX4_dry_X4_runDryingHour rfl rfl rfl (by decide +kernel) ⟨Nat.le_of_ble_eq_true rfl, Nat.le_of_ble_eq_true rfl⟩) (hE.1 0 (by decide)) (cq_kiln E _) rfl rfl hl.1 [.int ((kdp E v t).2)] rfl (Nat.le_of_ble_eq_true rfl) dX4_dry_32 ⟨Nat.zero_le _, Nat.zero_le _⟩ (fun H locs hH => ?_)
          refine lv_iadd hx hb dX4_dry_35 ?_
          refine lv_istore_n (lv' := [(2, .int (((kdp E v t).2) + (lgiv E 0 (((kdp E v t).1) 1 4) ((kdp E v t).1)))), (0, .ref (eAd E 0)), (1, .int (nI N)), (3, .int (nI t))]) hx hb dX4_dry_36 rfl hl (by decide) rfl (fun ls hl => ?_)
          refine lv_iinc (v := nI (t + 1)) (lv' := [(3, .int (nI (t + 1))), (2, .int (((kdp E v t).2) + (lgiv E 0 (((kdp E v t).1) 1 4) ((kdp E v t).1)))), (0, .ref (eAd E 0)), (1, .int (nI N))]) hx hb dX4_dry_37 hl (k := 3) rfl (nI_1 _) (by decide) rfl (fun ls hl => ?_)
          refine lv_goto (tgt := 18) hx hb dX4_dry_40 (by decide) ?_
          exact ih (t + 1) (by omega) _ _ ls (by first | exact hH | (simp only [kdr, kdm, c1, hcl, c3, if_true, if_false, ↓reduceIte]; exact hH)) (by first | exact lv_sub hl [2, 3, 1, 0] rfl | (have h := lv_sub hl [2, 3, 1, 0] rfl; simp only [kdr, kdm, c1, hcl, c3, if_true, if_false, ↓reduceIte]; exact h))
    exact loop18 N 0 (Nat.zero_add _) _ _ ls hH (lv_sub hl [2, 3, 1, 0] rfl)
  · skip
    refine lv_ldc (v := -1000003) hx hb hown (hts (.constant RX4 51 (-1000003)) (by decide +kernel)) dX4_dry_11 ?_
    exact g_iret F hr hlk hH (by first | rfl | (simp only [kdr, kdm, c1, if_true, if_false, ↓reduceIte]; done) | (simp only [kdr, kdm, c1, if_true, if_false, ↓reduceIte]; rfl)) (by first | rfl | (simp only [kdr, kdm, c1, if_true, if_false, ↓reduceIte]; done) | (simp only [kdr, kdm, c1, if_true, if_false, ↓reduceIte]; rfl)) dX4_dry_13

set_option maxHeartbeats 4000000 in
set_option maxRecDepth 100000 in
theorem c_X4_rest (l : Launch) (E : Ev) (hE : EO E) (v : Mem) (a : Int32) : Ci l yX4_rest wsX4_rest ({ frames := 5, cells := 0, slots := 0, locals := 109 } : Room) E [.ref (eAd E 0), .int a] v (krr E v a) (krm E v a) := by
  refine Ci.of (cc := cX4_rest) (maxL := 4) (ret := (some .int)) (own := RX4) (by decide) rfl rfl (Nat.le_of_ble_eq_true rfl) ?_
  intro p e s m below meth c F hr hlk ls hl hH
  obtain ⟨hx, hb, hml, hown, hts⟩ := id F.1
  have hl : lv_has ls 4 [(0, .ref (eAd E 0)), (1, .int a)] := hl
  have inJx4a65c : ∀ w ∈ wsJx4a65c0, w ∈ wsX4_rest := fun w h => List.mem_cons_of_mem _ (List.mem_append_left _ (List.mem_append_right _ h))
  have inX0 : ∀ w ∈ wsX00, w ∈ wsX4_rest := fun w h => List.mem_cons_of_mem _ (List.mem_append_right _ h)
  have inX1 : ∀ w ∈ wsX10, w ∈ wsX4_rest := fun w h => List.mem_cons_of_mem _ (List.mem_append_left _ (List.mem_append_left _ (List.mem_append_left _ (List.mem_append_right _ h))))
  have inX3 : ∀ w ∈ wsX30, w ∈ wsX4_rest := fun w h => List.mem_cons_of_mem _ (List.mem_append_left _ (List.mem_append_left _ (List.mem_append_right _ h)))
  have inX4 : ∀ w ∈ wsX40, w ∈ wsX4_rest := fun w h => List.mem_cons_of_mem _ (List.mem_append_left _ (List.mem_append_left _ (List.mem_append_left _ (List.mem_append_left _ (List.mem_append_right _ h)))))
  refine lv_iload_n hx hb dX4_rest_0 rfl (lv_at hl 1 rfl) ?_
  refine lv_iconst (v := 1) hx hb dX4_rest_1 (by decide) ?_
  refine lv_sipush (v := 200) hx hb dX4_rest_2 (by decide) ?_
  refine g_si (As := [.int a, .int 1, .int 200]) F hH (c_X4_isOutside l E hE v a 1 200) (va_cwS 3 hts gX4_rest_X4_isOutside rfl rfl rfl (by decide +kernel) ⟨Nat.le_of_ble_eq_true rfl, Nat.le_of_ble_eq_true rfl⟩) rfl hl.1 [] rfl (Nat.le_of_ble_eq_true rfl) dX4_rest_5 ⟨Nat.zero_le _, Nat.zero_le _⟩ (fun H locs hH => ?_)
  refine lv_if_eq (tgt := 14) hx hb dX4_rest_8 (by decide) (fun c1 => ?_) (fun c1 => ?_)
  · skip
    obtain ⟨N, hN, rfl⟩ := out_200 c1
    have hcl : (nI N).toNatClampNeg = N := nI_clamp (by omega)
    refine lv_iconst (v := 0) hx hb dX4_rest_14 (by decide) ?_
    refine lv_istore_n (lv' := [(2, .int 0), (0, .ref (eAd E 0)), (1, .int (nI N))]) hx hb dX4_rest_15 rfl hl (by decide) rfl (fun ls hl => ?_)
    refine lv_iconst (v := 0) hx hb dX4_rest_16 (by decide) ?_
    refine lv_istore_n (lv' := [(3, .int 0), (2, .int 0), (0, .ref (eAd E 0)), (1, .int (nI N))]) hx hb dX4_rest_17 rfl hl (by decide) rfl (fun ls hl => ?_)
    have loop18 : ∀ (n t : Nat), t + n = N → ∀ (H : Heap) (locs : List Loc) (ls : Array Slot), HS E s.heap ((krp E v t).1) H locs → lv_has ls 4 [(0, .ref (eAd E 0)), (1, .int (nI N)), (2, .int ((krp E v t).2)), (3, .int (nI t))] → W p l e ({ frames := 5, cells := 0, slots := 0, locals := 109 } : Room) s m ([.ref (eAd E 0), .int (nI N)] : List Value).toArray below meth c H locs 0 0 (Zi below E ([.ref (eAd E 0), .int (nI N)] : List Value).toArray s (krr E v (nI N)) (krm E v (nI N))) (F0 m 18 ls []) := by
      intro n
      induction n with
      | zero =>
        intro t ht H locs ls hH hl
        obtain rfl : N = t := by omega
        refine lv_iload_n hx hb dX4_rest_18 rfl (lv_at hl 3 rfl) ?_
        refine lv_iload_n hx hb dX4_rest_19 rfl (lv_at hl 1 rfl) ?_
        refine lv_icmp_ge (tgt := 47) hx hb dX4_rest_20 (by decide) (fun c2 => ?_) (fun c2 => ?_)
        · skip
          refine lv_iload_n hx hb dX4_rest_47 rfl (lv_at hl 2 rfl) ?_
          exact g_iret F hr hlk hH (by first | rfl | (simp only [krr, krm, c1, hcl, c2, if_true, if_false, ↓reduceIte]; done) | (simp only [krr, krm, c1, hcl, c2, if_true, if_false, ↓reduceIte]; rfl)) (by first | rfl | (simp only [krr, krm, c1, hcl, c2, if_true, if_false, ↓reduceIte]; done) | (simp only [krr, krm, c1, hcl, c2, if_true, if_false, ↓reduceIte]; rfl)) dX4_rest_48
        · skip
          exact absurd (nI_le (Nat.le_refl _) (by omega)) c2
      | succ n ih =>
        intro t ht H locs ls hH hl
        have htN : t < N := by omega
        refine lv_iload_n hx hb dX4_rest_18 rfl (lv_at hl 3 rfl) ?_
        refine lv_iload_n hx hb dX4_rest_19 rfl (lv_at hl 1 rfl) ?_
        refine lv_icmp_ge (tgt := 47) hx hb dX4_rest_20 (by decide) (fun c3 => ?_) (fun c3 => ?_)
        · skip
          exact absurd c3 (nI_ge htN (by omega))
        · skip
          refine lv_aload_n hx hb dX4_rest_23 rfl (lv_at hl 0 rfl) ?_
          refine g_get (x := .ref (eAd E 5)) F hH inX4 (hE.1 0 (by decide)) (cq_kiln E _) rfl 2 (by decide) (hts (.fieldLink RX4 26 "DryingKiln" "load" "LDryingKiln$Load;") (by decide +kernel)) (fun _ h => h) rfl dX4_rest_24 ?_
          refine lv_aload_n hx hb dX4_rest_27 rfl (lv_at hl 0 rfl) ?_
          refine g_get (x := .ref (eAd E 1)) F hH inX4 (hE.1 0 (by decide)) (cq_kiln E _) rfl 0 (by decide) (hts (.fieldLink RX4 10 "DryingKiln" "settings" "LDryingKiln$Settings;") (by decide +kernel)) (fun _ h => h) rfl dX4_rest_28 ?_
          refine g_vv (As := [.ref (eAd E 1)]) F hH (c_X1_passRestHour l E hE ((krp E v t).1) 0 (by first | assumption | omega | decide)) (cwV 1 hts gX4_rest_X1_passRestHour rfl rfl rfl (by decide +kernel) ⟨Nat.le_of_ble_eq_true rfl, Nat.le_of_ble_eq_true rfl⟩) (hE.1 5 (by decide)) (cq_ld E _ (i := 0) (by decide)) rfl rfl hl.1 [] rfl (Nat.le_of_ble_eq_true rfl) dX4_rest_31 ⟨Nat.zero_le _, Nat.zero_le _⟩ (fun H locs hH => ?_)
          refine lv_iload_n hx hb dX4_rest_34 rfl (lv_at hl 2 rfl) ?_
          refine lv_aload_n hx hb dX4_rest_35 rfl (lv_at hl 0 rfl) ?_
          refine g_vi (As := []) F hH (c_X4_endHour l E hE (lrst E 0 ((krp E v t).1))) (cwV 0 hts gX4_rest_X4_endHour rfl rfl rfl (by decide +kernel) ⟨Nat.le_of_ble_eq_true rfl, Nat.le_of_ble_eq_true rfl⟩) (hE.1 0 (by decide)) (cq_kiln E _) rfl rfl hl.1 [.int ((krp E v t).2)] rfl (Nat.le_of_ble_eq_true rfl) dX4_rest_36 ⟨Nat.zero_le _, Nat.zero_le _⟩ (fun H locs hH => ?_)
          refine lv_iadd hx hb dX4_rest_39 ?_
          refine lv_istore_n (lv' := [(2, .int (((krp E v t).2) + ((kend E (lrst E 0 ((krp E v t).1))).2))), (0, .ref (eAd E 0)), (1, .int (nI N)), (3, .int (nI t))]) hx hb dX4_rest_40 rfl hl (by decide) rfl (fun ls hl => ?_)
          refine lv_iinc (v := nI (t + 1)) (lv' := [(3, .int (nI (t + 1))), (2, .int (((krp E v t).2) + ((kend E (lrst E 0 ((krp E v t).1))).2))), (0, .ref (eAd E 0)), (1, .int (nI N))]) hx hb dX4_rest_41 hl (k := 3) rfl (nI_1 _) (by decide) rfl (fun ls hl => ?_)
          refine lv_goto (tgt := 18) hx hb dX4_rest_44 (by decide) ?_
          exact ih (t + 1) (by omega) _ _ ls (by first | exact hH | (simp only [krr, krm, c1, hcl, c3, if_true, if_false, ↓reduceIte]; exact hH)) (by first | exact lv_sub hl [2, 3, 1, 0] rfl | (have h := lv_sub hl [2, 3, 1, 0] rfl; simp only [krr, krm, c1, hcl, c3, if_true, if_false, ↓reduceIte]; exact h))
    exact loop18 N 0 (Nat.zero_add _) _ _ ls hH (lv_sub hl [2, 3, 1, 0] rfl)
  · skip
    refine lv_ldc (v := -1000003) hx hb hown (hts (.constant RX4 51 (-1000003)) (by decide +kernel)) dX4_rest_11 ?_
    exact g_iret F hr hlk hH (by first | rfl | (simp only [krr, krm, c1, if_true, if_false, ↓reduceIte]; done) | (simp only [krr, krm, c1, if_true, if_false, ↓reduceIte]; rfl)) (by first | rfl | (simp only [krr, krm, c1, if_true, if_false, ↓reduceIte]; done) | (simp only [krr, krm, c1, if_true, if_false, ↓reduceIte]; rfl)) dX4_rest_13

set_option maxHeartbeats 4000000 in
set_option maxRecDepth 100000 in
theorem c_X2_append (l : Launch) (E : Ev) (hE : EO E) (v : Mem) (a : Int32) (b : Int32) (ns : Nat) (hns : v 2 2 = nI ns) (h8 : ns ≤ 8) : Ci l yX2_append wsX2_append ({ frames := 0, cells := 0, slots := 0, locals := 0 } : Room) E [.ref (eAd E 2), .int a, .int b] v (sappr v ns a) (sappm v ns a b) := by
  refine Ci.of (cc := cX2_append) (maxL := 5) (ret := (some .int)) (own := RX2) (by decide) rfl rfl (Nat.le_of_ble_eq_true rfl) ?_
  intro p e s m below meth c F hr hlk ls hl hH
  obtain ⟨hx, hb, hml, hown, hts⟩ := id F.1
  have hl : lv_has ls 5 [(0, .ref (eAd E 2)), (1, .int a), (2, .int b)] := hl
  have inX2 : ∀ w ∈ wsX20, w ∈ wsX2_append := fun w h => List.mem_cons_of_mem _ (List.mem_append_right _ h)
  refine lv_aload_n hx hb dX2_append_0 rfl (lv_at hl 0 rfl) ?_
  refine g_get (x := .int (v 2 2)) F hH inX2 (hE.1 2 (by decide)) (cq_sch E _) rfl 2 (by decide) (hts (.fieldLink RX2 18 "DryingKiln$Schedule" "size" "I") (by decide +kernel)) (fun _ h => h) rfl dX2_append_1 ?_
  rw [show v 2 2 = nI ns from hns]
  refine lv_iconst (v := 1) hx hb dX2_append_4 (by decide) ?_
  refine lv_isub hx hb dX2_append_5 ?_
  refine lv_istore_n (lv' := [(3, .int ((nI ns) - 1)), (0, .ref (eAd E 2)), (1, .int a), (2, .int b)]) hx hb dX2_append_6 rfl hl (by decide) rfl (fun ls hl => ?_)
  refine lv_iload_n hx hb dX2_append_7 rfl (lv_at hl 0 rfl) ?_
  refine lv_if_lt (tgt := 30) hx hb dX2_append_8 (by decide) (fun c1 => ?_) (fun c1 => ?_)
  · skip
    have hns0 : ¬ 0 < ns := (fun h => absurd c1 (by rw [nI_m1 h]; exact nI_pos (by omega)))
    refine lv_aload_n hx hb dX2_append_30 rfl (lv_at hl 1 rfl) ?_
    refine g_get (x := .int (v 2 2)) F hH inX2 (hE.1 2 (by decide)) (cq_sch E _) rfl 2 (by decide) (hts (.fieldLink RX2 18 "DryingKiln$Schedule" "size" "I") (by decide +kernel)) (fun _ h => h) rfl dX2_append_31 ?_
    rw [show v 2 2 = nI ns from hns]
    refine lv_istore (lv' := [(4, .int (nI ns)), (3, .int ((nI ns) - 1)), (0, .ref (eAd E 2)), (1, .int a), (2, .int b)]) hx hb dX2_append_34 hl (by decide) rfl (fun ls hl => ?_)
    refine lv_iload hx hb dX2_append_36 (lv_at hl 0 rfl) ?_
    refine lv_if_lt (tgt := 48) hx hb dX2_append_38 (by decide) (fun c2 => ?_) (fun c2 => ?_)
    · skip
      exact absurd c2 (nI_pos (by omega))
    · skip
      refine lv_iload hx hb dX2_append_41 (lv_at hl 0 rfl) ?_
      refine lv_bipush (v := 8) hx hb dX2_append_43 (by decide) ?_
      refine lv_icmp_lt (tgt := 51) hx hb dX2_append_45 (by decide) (fun c3 => ?_) (fun c3 => ?_)
      · skip
        have c3 : ns < 8 := (nI_ltI (b := 8) (by omega) (by omega)).mp c3
        refine lv_aload_n hx hb dX2_append_51 rfl (lv_at hl 2 rfl) ?_
        refine g_get (x := .ref (eAd E 3)) F hH inX2 (hE.1 2 (by decide)) (cq_sch E _) rfl 0 (by decide) (hts (.fieldLink RX2 9 "DryingKiln$Schedule" "thresholds" "[I") (by decide +kernel)) (fun _ h => h) rfl dX2_append_52 ?_
        refine lv_iload hx hb dX2_append_55 (lv_at hl 0 rfl) ?_
        refine lv_iload_n hx hb dX2_append_57 rfl (lv_at hl 3 rfl) ?_
        refine g_iast (n := 8) F hH (hE.1 3 (by decide)) (fun _ => rfl) ns rfl (by omega) (by omega) dX2_append_58 (fun H locs hH => ?_)
        refine lv_aload_n hx hb dX2_append_59 rfl (lv_at hl 2 rfl) ?_
        refine g_get (x := .ref (eAd E 4)) F hH inX2 (hE.1 2 (by decide)) (cq_sch E _) rfl 1 (by decide) (hts (.fieldLink RX2 15 "DryingKiln$Schedule" "inlets" "[I") (by decide +kernel)) (fun _ h => h) rfl dX2_append_60 ?_
        refine lv_iload hx hb dX2_append_63 (lv_at hl 0 rfl) ?_
        refine lv_iload_n hx hb dX2_append_65 rfl (lv_at hl 4 rfl) ?_
        refine g_iast (n := 8) F hH (hE.1 4 (by decide)) (fun _ => rfl) ns rfl (by omega) (by omega) dX2_append_66 (fun H locs hH => ?_)
        refine lv_aload_n hx hb dX2_append_67 rfl (lv_at hl 2 rfl) ?_
        refine lv_dup hx hb dX2_append_68 rfl ?_
        refine g_get (x := .int ((st (st v 3 ns a) 4 ns b) 2 2)) F hH inX2 (hE.1 2 (by decide)) (cq_sch E _) rfl 2 (by decide) (hts (.fieldLink RX2 18 "DryingKiln$Schedule" "size" "I") (by decide +kernel)) (fun _ h => h) rfl dX2_append_69 ?_
        rw [show (st (st v 3 ns a) 4 ns b) 2 2 = v 2 2 by rw [st_ne _ _ _ (by decide), st_ne _ _ _ (by decide)]]
        rw [show v 2 2 = nI ns from hns]
        refine lv_iconst (v := 1) hx hb dX2_append_72 (by decide) ?_
        refine lv_iadd hx hb dX2_append_73 ?_
        rw [nI_1 ns]
        refine g_put (ty := .int) (x := nI (ns + 1)) F hH inX2 tyX2 tyX2_ok nmX2 (hE.1 2 (by decide)) (cq_sch E _) rfl 2 (by decide) (hts (.fieldLink RX2 18 "DryingKiln$Schedule" "size" "I") (by decide +kernel)) (fun _ h => h) rfl (by decide +kernel) rfl rfl (Nat.le_of_ble_eq_true rfl) (cq_sch E _) dX2_append_74 (fun H locs hH => ?_)
        refine lv_iload hx hb dX2_append_77 (lv_at hl 0 rfl) ?_
        exact g_iret F hr hlk hH (by first | rfl | (simp only [sappr, c1, hns0, c2, c3, if_true, if_false, ↓reduceIte, false_and, and_false, true_and, and_true, not_true_eq_false, not_false_eq_true])) (by first | rfl | (simp only [sappm, sapp, c1, hns0, c2, c3, if_true, if_false, ↓reduceIte, false_and, and_false, true_and, and_true, not_true_eq_false, not_false_eq_true])) dX2_append_79
      · skip
        have c3 : ¬ ns < 8 := fun h => c3 (nI_lt (b := 8) h (by omega))
        refine lv_ldc (v := -1000004) hx hb hown (hts (.constant RX2 23 (-1000004)) (by decide +kernel)) dX2_append_48 ?_
        exact g_iret F hr hlk hH (by first | rfl | (simp only [sappr, c1, hns0, c2, c3, if_true, if_false, ↓reduceIte, false_and, and_false, true_and, and_true, not_true_eq_false, not_false_eq_true])) (by first | rfl | (simp only [sappm, sapp, c1, hns0, c2, c3, if_true, if_false, ↓reduceIte, false_and, and_false, true_and, and_true, not_true_eq_false, not_false_eq_true])) dX2_append_50
  · skip
    have hns0 : 0 < ns := Nat.pos_of_ne_zero (fun h => c1 (by rw [h]; decide))
    refine lv_iload_n hx hb dX2_append_11 rfl (lv_at hl 0 rfl) ?_
    refine lv_bipush (v := 8) hx hb dX2_append_12 (by decide) ?_
    refine lv_icmp_ge (tgt := 30) hx hb dX2_append_14 (by decide) (fun c4 => ?_) (fun c4 => ?_)
    · skip
      exact absurd c4 (by rw [nI_m1 hns0]; exact nI_ge (b := 8) (by omega) (by omega))
    · skip
      refine lv_iload_n hx hb dX2_append_17 rfl (lv_at hl 2 rfl) ?_
      refine lv_aload_n hx hb dX2_append_18 rfl (lv_at hl 1 rfl) ?_
      refine g_get (x := .ref (eAd E 3)) F hH inX2 (hE.1 2 (by decide)) (cq_sch E _) rfl 0 (by decide) (hts (.fieldLink RX2 9 "DryingKiln$Schedule" "thresholds" "[I") (by decide +kernel)) (fun _ h => h) rfl dX2_append_19 ?_
      refine lv_iload_n hx hb dX2_append_22 rfl (lv_at hl 0 rfl) ?_
      refine g_iald (n := 8) (x := v 3 (ns - 1)) F hH (hE.1 3 (by decide)) rfl (ns - 1) (nI_m1 hns0) (by omega) (by omega) rfl dX2_append_23 ?_
      refine lv_icmp_lt (tgt := 30) hx hb dX2_append_24 (by decide) (fun c5 => ?_) (fun c5 => ?_)
      · skip
        refine lv_aload_n hx hb dX2_append_30 rfl (lv_at hl 1 rfl) ?_
        refine g_get (x := .int (v 2 2)) F hH inX2 (hE.1 2 (by decide)) (cq_sch E _) rfl 2 (by decide) (hts (.fieldLink RX2 18 "DryingKiln$Schedule" "size" "I") (by decide +kernel)) (fun _ h => h) rfl dX2_append_31 ?_
        rw [show v 2 2 = nI ns from hns]
        refine lv_istore (lv' := [(4, .int (nI ns)), (3, .int ((nI ns) - 1)), (0, .ref (eAd E 2)), (1, .int a), (2, .int b)]) hx hb dX2_append_34 hl (by decide) rfl (fun ls hl => ?_)
        refine lv_iload hx hb dX2_append_36 (lv_at hl 0 rfl) ?_
        refine lv_if_lt (tgt := 48) hx hb dX2_append_38 (by decide) (fun c6 => ?_) (fun c6 => ?_)
        · skip
          exact absurd c6 (nI_pos (by omega))
        · skip
          refine lv_iload hx hb dX2_append_41 (lv_at hl 0 rfl) ?_
          refine lv_bipush (v := 8) hx hb dX2_append_43 (by decide) ?_
          refine lv_icmp_lt (tgt := 51) hx hb dX2_append_45 (by decide) (fun c7 => ?_) (fun c7 => ?_)
          · skip
            have c7 : ns < 8 := (nI_ltI (b := 8) (by omega) (by omega)).mp c7
            refine lv_aload_n hx hb dX2_append_51 rfl (lv_at hl 2 rfl) ?_
            refine g_get (x := .ref (eAd E 3)) F hH inX2 (hE.1 2 (by decide)) (cq_sch E _) rfl 0 (by decide) (hts (.fieldLink RX2 9 "DryingKiln$Schedule" "thresholds" "[I") (by decide +kernel)) (fun _ h => h) rfl dX2_append_52 ?_
            refine lv_iload hx hb dX2_append_55 (lv_at hl 0 rfl) ?_
            refine lv_iload_n hx hb dX2_append_57 rfl (lv_at hl 3 rfl) ?_
            refine g_iast (n := 8) F hH (hE.1 3 (by decide)) (fun _ => rfl) ns rfl (by omega) (by omega) dX2_append_58 (fun H locs hH => ?_)
            refine lv_aload_n hx hb dX2_append_59 rfl (lv_at hl 2 rfl) ?_
            refine g_get (x := .ref (eAd E 4)) F hH inX2 (hE.1 2 (by decide)) (cq_sch E _) rfl 1 (by decide) (hts (.fieldLink RX2 15 "DryingKiln$Schedule" "inlets" "[I") (by decide +kernel)) (fun _ h => h) rfl dX2_append_60 ?_
            refine lv_iload hx hb dX2_append_63 (lv_at hl 0 rfl) ?_
            refine lv_iload_n hx hb dX2_append_65 rfl (lv_at hl 4 rfl) ?_
            refine g_iast (n := 8) F hH (hE.1 4 (by decide)) (fun _ => rfl) ns rfl (by omega) (by omega) dX2_append_66 (fun H locs hH => ?_)
            refine lv_aload_n hx hb dX2_append_67 rfl (lv_at hl 2 rfl) ?_
            refine lv_dup hx hb dX2_append_68 rfl ?_
            refine g_get (x := .int ((st (st v 3 ns a) 4 ns b) 2 2)) F hH inX2 (hE.1 2 (by decide)) (cq_sch E _) rfl 2 (by decide) (hts (.fieldLink RX2 18 "DryingKiln$Schedule" "size" "I") (by decide +kernel)) (fun _ h => h) rfl dX2_append_69 ?_
            rw [show (st (st v 3 ns a) 4 ns b) 2 2 = v 2 2 by rw [st_ne _ _ _ (by decide), st_ne _ _ _ (by decide)]]
            rw [show v 2 2 = nI ns from hns]
            refine lv_iconst (v := 1) hx hb dX2_append_72 (by decide) ?_
            refine lv_iadd hx hb dX2_append_73 ?_
            rw [nI_1 ns]
            refine g_put (ty := .int) (x := nI (ns + 1)) F hH inX2 tyX2 tyX2_ok nmX2 (hE.1 2 (by decide)) (cq_sch E _) rfl 2 (by decide) (hts (.fieldLink RX2 18 "DryingKiln$Schedule" "size" "I") (by decide +kernel)) (fun _ h => h) rfl (by decide +kernel) rfl rfl (Nat.le_of_ble_eq_true rfl) (cq_sch E _) dX2_append_74 (fun H locs hH => ?_)
            refine lv_iload hx hb dX2_append_77 (lv_at hl 0 rfl) ?_
            exact g_iret F hr hlk hH (by first | rfl | (simp only [sappr, c1, hns0, c4, c5, c6, c7, if_true, if_false, ↓reduceIte, false_and, and_false, true_and, and_true, not_true_eq_false, not_false_eq_true])) (by first | rfl | (simp only [sappm, sapp, c1, hns0, c4, c5, c6, c7, if_true, if_false, ↓reduceIte, false_and, and_false, true_and, and_true, not_true_eq_false, not_false_eq_true])) dX2_append_79
          · skip
            have c7 : ¬ ns < 8 := fun h => c7 (nI_lt (b := 8) h (by omega))
            refine lv_ldc (v := -1000004) hx hb hown (hts (.constant RX2 23 (-1000004)) (by decide +kernel)) dX2_append_48 ?_
            exact g_iret F hr hlk hH (by first | rfl | (simp only [sappr, c1, hns0, c4, c5, c6, c7, if_true, if_false, ↓reduceIte, false_and, and_false, true_and, and_true, not_true_eq_false, not_false_eq_true])) (by first | rfl | (simp only [sappm, sapp, c1, hns0, c4, c5, c6, c7, if_true, if_false, ↓reduceIte, false_and, and_false, true_and, and_true, not_true_eq_false, not_false_eq_true])) dX2_append_50
      · skip
        refine lv_ldc (v := -1000003) hx hb hown (hts (.constant RX2 22 (-1000003)) (by decide +kernel)) dX2_append_27 ?_
        exact g_iret F hr hlk hH (by first | rfl | (simp only [sappr, c1, hns0, c4, c5, if_true, if_false, ↓reduceIte, false_and, and_false, true_and, and_true, not_true_eq_false, not_false_eq_true])) (by first | rfl | (simp only [sappm, sapp, c1, hns0, c4, c5, if_true, if_false, ↓reduceIte, false_and, and_false, true_and, and_true, not_true_eq_false, not_false_eq_true])) dX2_append_29

set_option maxHeartbeats 4000000 in
set_option maxRecDepth 100000 in
theorem c_X4_addStage (l : Launch) (E : Ev) (hE : EO E) (v : Mem) (a : Int32) (b : Int32) (ns : Nat) (hns : v 2 2 = nI ns) (h8 : ns ≤ 8) : Ci l yX4_addStage wsX4_addStage ({ frames := 1, cells := 0, slots := 0, locals := 24 } : Room) E [.ref (eAd E 0), .int a, .int b] v (kasr v ns a b) (kasm v ns a b) := by
  refine Ci.of (cc := cX4_addStage) (maxL := 3) (ret := (some .int)) (own := RX4) (by decide) rfl rfl (Nat.le_of_ble_eq_true rfl) ?_
  intro p e s m below meth c F hr hlk ls hl hH
  obtain ⟨hx, hb, hml, hown, hts⟩ := id F.1
  have hl : lv_has ls 3 [(0, .ref (eAd E 0)), (1, .int a), (2, .int b)] := hl
  have inX2 : ∀ w ∈ wsX20, w ∈ wsX4_addStage := fun w h => List.mem_cons_of_mem _ (List.mem_append_right _ h)
  have inX4 : ∀ w ∈ wsX40, w ∈ wsX4_addStage := fun w h => List.mem_cons_of_mem _ (List.mem_append_left _ (List.mem_append_right _ h))
  refine lv_iload_n hx hb dX4_addStage_0 rfl (lv_at hl 1 rfl) ?_
  refine lv_iconst (v := 0) hx hb dX4_addStage_1 (by decide) ?_
  refine lv_sipush (v := 2000) hx hb dX4_addStage_2 (by decide) ?_
  refine g_si (As := [.int a, .int 0, .int 2000]) F hH (c_X4_isOutside l E hE v a 0 2000) (va_cwS 3 hts gX4_addStage_X4_isOutside rfl rfl rfl (by decide +kernel) ⟨Nat.le_of_ble_eq_true rfl, Nat.le_of_ble_eq_true rfl⟩) rfl hl.1 [] rfl (Nat.le_of_ble_eq_true rfl) dX4_addStage_5 ⟨Nat.zero_le _, Nat.zero_le _⟩ (fun H locs hH => ?_)
  refine lv_if_ne (tgt := 22) hx hb dX4_addStage_8 (by decide) (fun c1 => ?_) (fun c1 => ?_)
  · skip
    refine lv_ldc (v := -1000003) hx hb hown (hts (.constant RX4 51 (-1000003)) (by decide +kernel)) dX4_addStage_22 ?_
    exact g_iret F hr hlk hH (by first | rfl | (simp only [kasr, kasm, c1, if_true, if_false, ↓reduceIte]; done) | (simp only [kasr, kasm, c1, if_true, if_false, ↓reduceIte]; rfl)) (by first | rfl | (simp only [kasr, kasm, c1, if_true, if_false, ↓reduceIte]; done) | (simp only [kasr, kasm, c1, if_true, if_false, ↓reduceIte]; rfl)) dX4_addStage_24
  · skip
    refine lv_iload_n hx hb dX4_addStage_11 rfl (lv_at hl 2 rfl) ?_
    refine lv_iconst (v := 0) hx hb dX4_addStage_12 (by decide) ?_
    refine lv_sipush (v := 300) hx hb dX4_addStage_13 (by decide) ?_
    refine g_si (As := [.int b, .int 0, .int 300]) F hH (c_X4_isOutside l E hE v b 0 300) (va_cwS 3 hts gX4_addStage_X4_isOutside rfl rfl rfl (by decide +kernel) ⟨Nat.le_of_ble_eq_true rfl, Nat.le_of_ble_eq_true rfl⟩) rfl hl.1 [] rfl (Nat.le_of_ble_eq_true rfl) dX4_addStage_16 ⟨Nat.zero_le _, Nat.zero_le _⟩ (fun H locs hH => ?_)
    refine lv_if_eq (tgt := 25) hx hb dX4_addStage_19 (by decide) (fun c2 => ?_) (fun c2 => ?_)
    · skip
      refine lv_aload_n hx hb dX4_addStage_25 rfl (lv_at hl 0 rfl) ?_
      refine g_get (x := .ref (eAd E 2)) F hH inX4 (hE.1 0 (by decide)) (cq_kiln E _) rfl 1 (by decide) (hts (.fieldLink RX4 19 "DryingKiln" "schedule" "LDryingKiln$Schedule;") (by decide +kernel)) (fun _ h => h) rfl dX4_addStage_26 ?_
      refine lv_iload_n hx hb dX4_addStage_29 rfl (lv_at hl 1 rfl) ?_
      refine lv_iload_n hx hb dX4_addStage_30 rfl (lv_at hl 2 rfl) ?_
      refine g_vi (As := [.int a, .int b]) F hH (c_X2_append l E hE v a b ns (by first | assumption | omega | decide) (by first | assumption | omega | decide)) (cwV 2 hts gX4_addStage_X2_append rfl rfl rfl (by decide +kernel) ⟨Nat.le_of_ble_eq_true rfl, Nat.le_of_ble_eq_true rfl⟩) (hE.1 2 (by decide)) (cq_sch E _) rfl rfl hl.1 [] rfl (Nat.le_of_ble_eq_true rfl) dX4_addStage_31 ⟨Nat.zero_le _, Nat.zero_le _⟩ (fun H locs hH => ?_)
      exact g_iret F hr hlk hH (by first | rfl | (simp only [kasr, kasm, c1, c2, if_true, if_false, ↓reduceIte]; done) | (simp only [kasr, kasm, c1, c2, if_true, if_false, ↓reduceIte]; rfl)) (by first | rfl | (simp only [kasr, kasm, c1, c2, if_true, if_false, ↓reduceIte]; done) | (simp only [kasr, kasm, c1, c2, if_true, if_false, ↓reduceIte]; rfl)) dX4_addStage_34
    · skip
      refine lv_ldc (v := -1000003) hx hb hown (hts (.constant RX4 51 (-1000003)) (by decide +kernel)) dX4_addStage_22 ?_
      exact g_iret F hr hlk hH (by first | rfl | (simp only [kasr, kasm, c1, c2, if_true, if_false, ↓reduceIte]; done) | (simp only [kasr, kasm, c1, c2, if_true, if_false, ↓reduceIte]; rfl)) (by first | rfl | (simp only [kasr, kasm, c1, c2, if_true, if_false, ↓reduceIte]; done) | (simp only [kasr, kasm, c1, c2, if_true, if_false, ↓reduceIte]; rfl)) dX4_addStage_24

set_option maxHeartbeats 4000000 in
set_option maxRecDepth 100000 in
theorem c_X4_clearStages (l : Launch) (E : Ev) (hE : EO E) (v : Mem) : Ci l yX4_clearStages wsX4_clearStages ({ frames := 1, cells := 0, slots := 0, locals := 21 } : Room) E [.ref (eAd E 0)] v (v 2 2) (st v 2 2 0) := by
  refine Ci.of (cc := cX4_clearStages) (maxL := 1) (ret := (some .int)) (own := RX4) (by decide) rfl rfl (Nat.le_of_ble_eq_true rfl) ?_
  intro p e s m below meth c F hr hlk ls hl hH
  obtain ⟨hx, hb, hml, hown, hts⟩ := id F.1
  have hl : lv_has ls 1 [(0, .ref (eAd E 0))] := hl
  have inX2 : ∀ w ∈ wsX20, w ∈ wsX4_clearStages := fun w h => List.mem_cons_of_mem _ (List.mem_append_right _ h)
  have inX4 : ∀ w ∈ wsX40, w ∈ wsX4_clearStages := fun w h => List.mem_cons_of_mem _ (List.mem_append_left _ (List.mem_append_right _ h))
  refine lv_aload_n hx hb dX4_clearStages_0 rfl (lv_at hl 0 rfl) ?_
  refine g_get (x := .ref (eAd E 2)) F hH inX4 (hE.1 0 (by decide)) (cq_kiln E _) rfl 1 (by decide) (hts (.fieldLink RX4 19 "DryingKiln" "schedule" "LDryingKiln$Schedule;") (by decide +kernel)) (fun _ h => h) rfl dX4_clearStages_1 ?_
  refine g_vi (As := []) F hH (c_X2_clear l E hE v) (cwV 0 hts gX4_clearStages_X2_clear rfl rfl rfl (by decide +kernel) ⟨Nat.le_of_ble_eq_true rfl, Nat.le_of_ble_eq_true rfl⟩) (hE.1 2 (by decide)) (cq_sch E _) rfl rfl hl.1 [] rfl (Nat.le_of_ble_eq_true rfl) dX4_clearStages_4 ⟨Nat.zero_le _, Nat.zero_le _⟩ (fun H locs hH => ?_)
  exact g_iret F hr hlk hH (by first | rfl | (simp only [if_true, if_false, ↓reduceIte]; done) | (simp only [if_true, if_false, ↓reduceIte]; rfl)) (by first | rfl | (simp only [if_true, if_false, ↓reduceIte]; done) | (simp only [if_true, if_false, ↓reduceIte]; rfl)) dX4_clearStages_7

set_option maxHeartbeats 4000000 in
set_option maxRecDepth 100000 in
theorem c_X4_currentStage (l : Launch) (E : Ev) (hE : EO E) (v : Mem) (ns : Nat) (hns : v 2 2 = nI ns) (h8 : ns ≤ 8) : Ci l yX4_currentStage wsX4_currentStage ({ frames := 4, cells := 0, slots := 0, locals := 86 } : Room) E [.ref (eAd E 0)] v (kcs E v ns) v := by
  refine Ci.of (cc := cX4_currentStage) (maxL := 1) (ret := (some .int)) (own := RX4) (by decide) rfl rfl (Nat.le_of_ble_eq_true rfl) ?_
  intro p e s m below meth c F hr hlk ls hl hH
  obtain ⟨hx, hb, hml, hown, hts⟩ := id F.1
  have hl : lv_has ls 1 [(0, .ref (eAd E 0))] := hl
  have inJx4a65c : ∀ w ∈ wsJx4a65c0, w ∈ wsX4_currentStage := fun w h => List.mem_cons_of_mem _ (List.mem_append_left _ (List.mem_append_left _ (List.mem_append_right _ h)))
  have inX0 : ∀ w ∈ wsX00, w ∈ wsX4_currentStage := fun w h => List.mem_cons_of_mem _ (List.mem_append_left _ (List.mem_append_right _ h))
  have inX1 : ∀ w ∈ wsX10, w ∈ wsX4_currentStage := fun w h => List.mem_cons_of_mem _ (List.mem_append_left _ (List.mem_append_left _ (List.mem_append_left _ (List.mem_append_right _ h))))
  have inX2 : ∀ w ∈ wsX20, w ∈ wsX4_currentStage := fun w h => List.mem_cons_of_mem _ (List.mem_append_right _ h)
  have inX4 : ∀ w ∈ wsX40, w ∈ wsX4_currentStage := fun w h => List.mem_cons_of_mem _ (List.mem_append_left _ (List.mem_append_left _ (List.mem_append_left _ (List.mem_append_left _ (List.mem_append_right _ h)))))
  refine lv_aload_n hx hb dX4_currentStage_0 rfl (lv_at hl 0 rfl) ?_
  refine g_get (x := .ref (eAd E 5)) F hH inX4 (hE.1 0 (by decide)) (cq_kiln E _) rfl 2 (by decide) (hts (.fieldLink RX4 26 "DryingKiln" "load" "LDryingKiln$Load;") (by decide +kernel)) (fun _ h => h) rfl dX4_currentStage_1 ?_
  refine g_vi (As := []) F hH (c_X1_size l E hE v 0 (by first | assumption | omega | decide)) (cwV 0 hts gX4_currentStage_X1_size rfl rfl rfl (by decide +kernel) ⟨Nat.le_of_ble_eq_true rfl, Nat.le_of_ble_eq_true rfl⟩) (hE.1 5 (by decide)) (cq_ld E _ (i := 0) (by decide)) rfl rfl hl.1 [] rfl (Nat.le_of_ble_eq_true rfl) dX4_currentStage_4 ⟨Nat.zero_le _, Nat.zero_le _⟩ (fun H locs hH => ?_)
  refine lv_if_ne (tgt := 15) hx hb dX4_currentStage_7 (by decide) (fun c1 => ?_) (fun c1 => ?_)
  · skip
    refine lv_aload_n hx hb dX4_currentStage_15 rfl (lv_at hl 0 rfl) ?_
    refine g_get (x := .ref (eAd E 2)) F hH inX4 (hE.1 0 (by decide)) (cq_kiln E _) rfl 1 (by decide) (hts (.fieldLink RX4 19 "DryingKiln" "schedule" "LDryingKiln$Schedule;") (by decide +kernel)) (fun _ h => h) rfl dX4_currentStage_16 ?_
    refine lv_aload_n hx hb dX4_currentStage_19 rfl (lv_at hl 0 rfl) ?_
    refine g_get (x := .ref (eAd E 5)) F hH inX4 (hE.1 0 (by decide)) (cq_kiln E _) rfl 2 (by decide) (hts (.fieldLink RX4 26 "DryingKiln" "load" "LDryingKiln$Load;") (by decide +kernel)) (fun _ h => h) rfl dX4_currentStage_20 ?_
    refine g_vi (As := []) F hH (c_X1_greatestAverage l E hE v 0 (by first | assumption | omega | decide)) (cwV 0 hts gX4_currentStage_X1_greatestAverage rfl rfl rfl (by decide +kernel) ⟨Nat.le_of_ble_eq_true rfl, Nat.le_of_ble_eq_true rfl⟩) (hE.1 5 (by decide)) (cq_ld E _ (i := 0) (by decide)) rfl rfl hl.1 [.ref (eAd E 2)] rfl (Nat.le_of_ble_eq_true rfl) dX4_currentStage_23 ⟨Nat.zero_le _, Nat.zero_le _⟩ (fun H locs hH => ?_)
    refine g_vi (As := [.int (lga E v 0 (eNb E 0))]) F hH (c_X2_stageFor l E hE v (lga E v 0 (eNb E 0)) ns (by first | assumption | omega | decide) (by first | assumption | omega | decide)) (cwV 1 hts gX4_currentStage_X2_stageFor rfl rfl rfl (by decide +kernel) ⟨Nat.le_of_ble_eq_true rfl, Nat.le_of_ble_eq_true rfl⟩) (hE.1 2 (by decide)) (cq_sch E _) rfl rfl hl.1 [] rfl (Nat.le_of_ble_eq_true rfl) dX4_currentStage_26 ⟨Nat.zero_le _, Nat.zero_le _⟩ (fun H locs hH => ?_)
    exact g_iret F hr hlk hH (by first | rfl | (simp only [kcs, c1, if_true, if_false, ↓reduceIte]; done) | (simp only [kcs, c1, if_true, if_false, ↓reduceIte]; rfl)) (by first | rfl | (simp only [kcs, c1, if_true, if_false, ↓reduceIte]; done) | (simp only [kcs, c1, if_true, if_false, ↓reduceIte]; rfl)) dX4_currentStage_29
  · skip
    refine lv_ldc (v := -1000005) hx hb hown (hts (.constant RX4 140 (-1000005)) (by decide +kernel)) dX4_currentStage_10 ?_
    refine lv_goto (tgt := 29) hx hb dX4_currentStage_12 (by decide) ?_
    exact g_iret F hr hlk hH (by first | rfl | (simp only [kcs, c1, if_true, if_false, ↓reduceIte]; done) | (simp only [kcs, c1, if_true, if_false, ↓reduceIte]; rfl)) (by first | rfl | (simp only [kcs, c1, if_true, if_false, ↓reduceIte]; done) | (simp only [kcs, c1, if_true, if_false, ↓reduceIte]; rfl)) dX4_currentStage_29

set_option maxHeartbeats 4000000 in
set_option maxRecDepth 100000 in
theorem c_X4_scheduledInlet (l : Launch) (E : Ev) (hE : EO E) (v : Mem) (ns : Nat) (hns : v 2 2 = nI ns) (h8 : ns ≤ 8) : Ci l yX4_scheduledInlet wsX4_scheduledInlet ({ frames := 5, cells := 0, slots := 0, locals := 106 } : Room) E [.ref (eAd E 0)] v (ksi E v ns) v := by
  refine Ci.of (cc := cX4_scheduledInlet) (maxL := 1) (ret := (some .int)) (own := RX4) (by decide) rfl rfl (Nat.le_of_ble_eq_true rfl) ?_
  intro p e s m below meth c F hr hlk ls hl hH
  obtain ⟨hx, hb, hml, hown, hts⟩ := id F.1
  have hl : lv_has ls 1 [(0, .ref (eAd E 0))] := hl
  have inJx4a65c : ∀ w ∈ wsJx4a65c0, w ∈ wsX4_scheduledInlet := fun w h => List.mem_cons_of_mem _ (List.mem_append_left _ (List.mem_append_left _ (List.mem_append_right _ h)))
  have inX0 : ∀ w ∈ wsX00, w ∈ wsX4_scheduledInlet := fun w h => List.mem_cons_of_mem _ (List.mem_append_left _ (List.mem_append_right _ h))
  have inX1 : ∀ w ∈ wsX10, w ∈ wsX4_scheduledInlet := fun w h => List.mem_cons_of_mem _ (List.mem_append_left _ (List.mem_append_left _ (List.mem_append_left _ (List.mem_append_right _ h))))
  have inX2 : ∀ w ∈ wsX20, w ∈ wsX4_scheduledInlet := fun w h => List.mem_cons_of_mem _ (List.mem_append_right _ h)
  have inX3 : ∀ w ∈ wsX30, w ∈ wsX4_scheduledInlet := fun w h => List.mem_cons_of_mem _ (List.mem_append_left _ (List.mem_append_left _ (List.mem_append_left _ (List.mem_append_left _ (List.mem_append_right _ h)))))
  have inX4 : ∀ w ∈ wsX40, w ∈ wsX4_scheduledInlet := fun w h => List.mem_cons_of_mem _ (List.mem_append_left _ (List.mem_append_left _ (List.mem_append_left _ (List.mem_append_left _ (List.mem_append_left _ (List.mem_append_right _ h))))))
  refine lv_aload_n hx hb dX4_scheduledInlet_0 rfl (lv_at hl 0 rfl) ?_
  refine g_get (x := .ref (eAd E 2)) F hH inX4 (hE.1 0 (by decide)) (cq_kiln E _) rfl 1 (by decide) (hts (.fieldLink RX4 19 "DryingKiln" "schedule" "LDryingKiln$Schedule;") (by decide +kernel)) (fun _ h => h) rfl dX4_scheduledInlet_1 ?_
  refine lv_aload_n hx hb dX4_scheduledInlet_4 rfl (lv_at hl 0 rfl) ?_
  refine g_vi (As := []) F hH (c_X4_currentStage l E hE v ns (by first | assumption | omega | decide) (by first | assumption | omega | decide)) (cwV 0 hts gX4_scheduledInlet_X4_currentStage rfl rfl rfl (by decide +kernel) ⟨Nat.le_of_ble_eq_true rfl, Nat.le_of_ble_eq_true rfl⟩) (hE.1 0 (by decide)) (cq_kiln E _) rfl rfl hl.1 [.ref (eAd E 2)] rfl (Nat.le_of_ble_eq_true rfl) dX4_scheduledInlet_5 ⟨Nat.zero_le _, Nat.zero_le _⟩ (fun H locs hH => ?_)
  refine lv_aload_n hx hb dX4_scheduledInlet_8 rfl (lv_at hl 0 rfl) ?_
  refine g_get (x := .ref (eAd E 1)) F hH inX4 (hE.1 0 (by decide)) (cq_kiln E _) rfl 0 (by decide) (hts (.fieldLink RX4 10 "DryingKiln" "settings" "LDryingKiln$Settings;") (by decide +kernel)) (fun _ h => h) rfl dX4_scheduledInlet_9 ?_
  refine g_get (x := .int (v 1 4)) F hH inX3 (hE.1 1 (by decide)) (cq_set E _) rfl 4 (by decide) (hts (.fieldLink RX4 110 "DryingKiln$Settings" "humidity" "I") (by decide +kernel)) (fun _ h => h) rfl dX4_scheduledInlet_12 ?_
  refine g_vi (As := [.int (kcs E v ns), .int (v 1 4)]) F hH (c_X2_inletOf l E hE v (kcs E v ns) (v 1 4)) (cwV 2 hts gX4_scheduledInlet_X2_inletOf rfl rfl rfl (by decide +kernel) ⟨Nat.le_of_ble_eq_true rfl, Nat.le_of_ble_eq_true rfl⟩) (hE.1 2 (by decide)) (cq_sch E _) rfl rfl hl.1 [] rfl (Nat.le_of_ble_eq_true rfl) dX4_scheduledInlet_15 ⟨Nat.zero_le _, Nat.zero_le _⟩ (fun H locs hH => ?_)
  exact g_iret F hr hlk hH rfl rfl dX4_scheduledInlet_18

set_option maxHeartbeats 4000000 in
set_option maxRecDepth 100000 in
theorem c_X4_runSchedule (l : Launch) (E : Ev) (hE : EO E) (v : Mem) (a : Int32) (b : Int32) (ns : Nat) (hns : v 2 2 = nI ns) (h8 : ns ≤ 8) : Ci l yX4_runSchedule wsX4_runSchedule ({ frames := 6, cells := 0, slots := 0, locals := 131 } : Room) E [.ref (eAd E 0), .int a, .int b] v (ksdr E v ns a b) (ksdm E v ns a b) := by
  refine Ci.of (cc := cX4_runSchedule) (maxL := 4) (ret := (some .int)) (own := RX4) (by decide) rfl rfl (Nat.le_of_ble_eq_true rfl) ?_
  intro p e s m below meth c F hr hlk ls hl hH
  obtain ⟨hx, hb, hml, hown, hts⟩ := id F.1
  have hl : lv_has ls 4 [(0, .ref (eAd E 0)), (1, .int a), (2, .int b)] := hl
  have inJx4a65c : ∀ w ∈ wsJx4a65c0, w ∈ wsX4_runSchedule := fun w h => List.mem_cons_of_mem _ (List.mem_append_left _ (List.mem_append_left _ (List.mem_append_left _ (List.mem_append_right _ h))))
  have inX0 : ∀ w ∈ wsX00, w ∈ wsX4_runSchedule := fun w h => List.mem_cons_of_mem _ (List.mem_append_left _ (List.mem_append_left _ (List.mem_append_right _ h)))
  have inX1 : ∀ w ∈ wsX10, w ∈ wsX4_runSchedule := fun w h => List.mem_cons_of_mem _ (List.mem_append_left _ (List.mem_append_left _ (List.mem_append_left _ (List.mem_append_left _ (List.mem_append_right _ h)))))
  have inX2 : ∀ w ∈ wsX20, w ∈ wsX4_runSchedule := fun w h => List.mem_cons_of_mem _ (List.mem_append_right _ h)
  have inX3 : ∀ w ∈ wsX30, w ∈ wsX4_runSchedule := fun w h => List.mem_cons_of_mem _ (List.mem_append_left _ (List.mem_append_right _ h))
  have inX4 : ∀ w ∈ wsX40, w ∈ wsX4_runSchedule := fun w h => List.mem_cons_of_mem _ (List.mem_append_left _ (List.mem_append_left _ (List.mem_append_left _ (List.mem_append_left _ (List.mem_append_left _ (List.mem_append_right _ h))))))
  refine lv_iload_n hx hb dX4_runSchedule_0 rfl (lv_at hl 1 rfl) ?_
  refine lv_iconst (v := 0) hx hb dX4_runSchedule_1 (by decide) ?_
  refine lv_sipush (v := 2000) hx hb dX4_runSchedule_2 (by decide) ?_
  refine g_si (As := [.int a, .int 0, .int 2000]) F hH (c_X4_isOutside l E hE v a 0 2000) (va_cwS 3 hts gX4_runSchedule_X4_isOutside rfl rfl rfl (by decide +kernel) ⟨Nat.le_of_ble_eq_true rfl, Nat.le_of_ble_eq_true rfl⟩) rfl hl.1 [] rfl (Nat.le_of_ble_eq_true rfl) dX4_runSchedule_5 ⟨Nat.zero_le _, Nat.zero_le _⟩ (fun H locs hH => ?_)
  refine lv_if_ne (tgt := 22) hx hb dX4_runSchedule_8 (by decide) (fun c1 => ?_) (fun c1 => ?_)
  · skip
    refine lv_ldc (v := -1000003) hx hb hown (hts (.constant RX4 51 (-1000003)) (by decide +kernel)) dX4_runSchedule_22 ?_
    exact g_iret F hr hlk hH (by first | (simp only [ksdr, c1, if_true, if_false, ↓reduceIte]; done) | (simp only [ksdr, c1, if_true, if_false, ↓reduceIte]; rw [hw3]; simp only [krs, c1, if_true, ↓reduceIte, Nat.add_zero])) (by first | (simp only [ksdm, c1, if_true, if_false, ↓reduceIte]; done) | (simp only [ksdm, c1, if_true, if_false, ↓reduceIte]; rw [hw2]; simp only [krs, c1, if_true, ↓reduceIte])) dX4_runSchedule_24
  · skip
    refine lv_iload_n hx hb dX4_runSchedule_11 rfl (lv_at hl 2 rfl) ?_
    refine lv_iconst (v := 1) hx hb dX4_runSchedule_12 (by decide) ?_
    refine lv_sipush (v := 200) hx hb dX4_runSchedule_13 (by decide) ?_
    refine g_si (As := [.int b, .int 1, .int 200]) F hH (c_X4_isOutside l E hE v b 1 200) (va_cwS 3 hts gX4_runSchedule_X4_isOutside rfl rfl rfl (by decide +kernel) ⟨Nat.le_of_ble_eq_true rfl, Nat.le_of_ble_eq_true rfl⟩) rfl hl.1 [] rfl (Nat.le_of_ble_eq_true rfl) dX4_runSchedule_16 ⟨Nat.zero_le _, Nat.zero_le _⟩ (fun H locs hH => ?_)
    refine lv_if_eq (tgt := 25) hx hb dX4_runSchedule_19 (by decide) (fun c2 => ?_) (fun c2 => ?_)
    · skip
      obtain ⟨N, hN, rfl⟩ := out_200 c2
      have hcl : (nI N).toNatClampNeg = N := nI_clamp (by omega)
      refine lv_iconst (v := 0) hx hb dX4_runSchedule_25 (by decide) ?_
      refine lv_istore_n (lv' := [(3, .int 0), (0, .ref (eAd E 0)), (1, .int a), (2, .int (nI N))]) hx hb dX4_runSchedule_26 rfl hl (by decide) rfl (fun ls hl => ?_)
      have loop27 : ∀ (n t : Nat), t + n = N → ∀ (w : Mem), w 2 2 = nI ns → (krs E ns a N v).1 = (krs E ns a n w).1 → (krs E ns a N v).2 = t + (krs E ns a n w).2 → ∀ (H : Heap) (locs : List Loc) (ls : Array Slot), HS E s.heap w H locs → lv_has ls 4 [(0, .ref (eAd E 0)), (1, .int a), (2, .int (nI N)), (3, .int (nI t))] → W p l e ({ frames := 6, cells := 0, slots := 0, locals := 131 } : Room) s m ([.ref (eAd E 0), .int a, .int (nI N)] : List Value).toArray below meth c H locs 0 0 (Zi below E ([.ref (eAd E 0), .int a, .int (nI N)] : List Value).toArray s (ksdr E v ns a (nI N)) (ksdm E v ns a (nI N))) (F0 m 27 ls []) := by
        intro n
        induction n with
        | zero =>
          intro t ht w hw1 hw2 hw3 H locs ls hH hl
          obtain rfl : N = t := by omega
          refine lv_iload_n hx hb dX4_runSchedule_27 rfl (lv_at hl 3 rfl) ?_
          refine lv_iload_n hx hb dX4_runSchedule_28 rfl (lv_at hl 2 rfl) ?_
          refine lv_icmp_ge (tgt := 58) hx hb dX4_runSchedule_29 (by decide) (fun c3 => ?_) (fun c3 => ?_)
          · skip
            refine lv_iload_n hx hb dX4_runSchedule_58 rfl (lv_at hl 3 rfl) ?_
            exact g_iret F hr hlk hH (by first | (simp only [ksdr, c1, c2, hcl, c3, if_true, if_false, ↓reduceIte]; done) | (simp only [ksdr, c1, c2, hcl, c3, if_true, if_false, ↓reduceIte]; rw [hw3]; simp only [krs, c1, c2, hcl, c3, if_true, ↓reduceIte, Nat.add_zero])) (by first | (simp only [ksdm, c1, c2, hcl, c3, if_true, if_false, ↓reduceIte]; done) | (simp only [ksdm, c1, c2, hcl, c3, if_true, if_false, ↓reduceIte]; rw [hw2]; simp only [krs, c1, c2, hcl, c3, if_true, ↓reduceIte])) dX4_runSchedule_59
          · skip
            exact absurd (nI_le (Nat.le_refl _) (by omega)) c3
        | succ n ih =>
          intro t ht w hw1 hw2 hw3 H locs ls hH hl
          have htN : t < N := by omega
          refine lv_iload_n hx hb dX4_runSchedule_27 rfl (lv_at hl 3 rfl) ?_
          refine lv_iload_n hx hb dX4_runSchedule_28 rfl (lv_at hl 2 rfl) ?_
          refine lv_icmp_ge (tgt := 58) hx hb dX4_runSchedule_29 (by decide) (fun c4 => ?_) (fun c4 => ?_)
          · skip
            exact absurd c4 (nI_ge htN (by omega))
          · skip
            refine lv_aload_n hx hb dX4_runSchedule_32 rfl (lv_at hl 0 rfl) ?_
            refine g_get (x := .ref (eAd E 5)) F hH inX4 (hE.1 0 (by decide)) (cq_kiln E _) rfl 2 (by decide) (hts (.fieldLink RX4 26 "DryingKiln" "load" "LDryingKiln$Load;") (by decide +kernel)) (fun _ h => h) rfl dX4_runSchedule_33 ?_
            refine lv_iload_n hx hb dX4_runSchedule_36 rfl (lv_at hl 1 rfl) ?_
            refine g_vi (As := [.int a]) F hH (c_X1_isWetterThan l E hE w 0 a (by first | assumption | omega | decide)) (cwV 1 hts gX4_runSchedule_X1_isWetterThan rfl rfl rfl (by decide +kernel) ⟨Nat.le_of_ble_eq_true rfl, Nat.le_of_ble_eq_true rfl⟩) (hE.1 5 (by decide)) (cq_ld E _ (i := 0) (by decide)) rfl rfl hl.1 [] rfl (Nat.le_of_ble_eq_true rfl) dX4_runSchedule_37 ⟨Nat.zero_le _, Nat.zero_le _⟩ (fun H locs hH => ?_)
            refine lv_if_eq (tgt := 58) hx hb dX4_runSchedule_40 (by decide) (fun c5 => ?_) (fun c5 => ?_)
            · skip
              refine lv_iload_n hx hb dX4_runSchedule_58 rfl (lv_at hl 3 rfl) ?_
              exact g_iret F hr hlk hH (by first | (simp only [ksdr, c1, c2, hcl, c4, c5, if_true, if_false, ↓reduceIte]; done) | (simp only [ksdr, c1, c2, hcl, c4, c5, if_true, if_false, ↓reduceIte]; rw [hw3]; simp only [krs, c1, c2, hcl, c4, c5, if_true, ↓reduceIte, Nat.add_zero])) (by first | (simp only [ksdm, c1, c2, hcl, c4, c5, if_true, if_false, ↓reduceIte]; done) | (simp only [ksdm, c1, c2, hcl, c4, c5, if_true, if_false, ↓reduceIte]; rw [hw2]; simp only [krs, c1, c2, hcl, c4, c5, if_true, ↓reduceIte])) dX4_runSchedule_59
            · skip
              refine lv_aload_n hx hb dX4_runSchedule_43 rfl (lv_at hl 0 rfl) ?_
              refine lv_aload_n hx hb dX4_runSchedule_44 rfl (lv_at hl 0 rfl) ?_
              refine g_vi (As := []) F hH (c_X4_scheduledInlet l E hE w ns hw1 h8) (cwV 0 hts gX4_runSchedule_X4_scheduledInlet rfl rfl rfl (by decide +kernel) ⟨Nat.le_of_ble_eq_true rfl, Nat.le_of_ble_eq_true rfl⟩) (hE.1 0 (by decide)) (cq_kiln E _) rfl rfl hl.1 [.ref (eAd E 0)] rfl (Nat.le_of_ble_eq_true rfl) dX4_runSchedule_45 ⟨Nat.zero_le _, Nat.zero_le _⟩ (fun H locs hH => ?_)
              refine g_vi (As := [.int (ksi E w ns)]) F hH (c_X4_runDryingHour l E hE w (ksi E w ns)) (cwV 1 hts gX4_runSchedule_X4_runDryingHour rfl rfl rfl (by decide +kernel) ⟨Nat.le_of_ble_eq_true rfl, Nat.le_of_ble_eq_true rfl⟩) (hE.1 0 (by decide)) (cq_kiln E _) rfl rfl hl.1 [] rfl (Nat.le_of_ble_eq_true rfl) dX4_runSchedule_48 ⟨Nat.zero_le _, Nat.zero_le _⟩ (fun H locs hH => ?_)
              refine lv_pop hx hb dX4_runSchedule_51 rfl ?_
              refine lv_iinc (v := nI (t + 1)) (lv' := [(3, .int (nI (t + 1))), (0, .ref (eAd E 0)), (1, .int a), (2, .int (nI N))]) hx hb dX4_runSchedule_52 hl (k := 3) rfl (nI_1 _) (by decide) rfl (fun ls hl => ?_)
              refine lv_goto (tgt := 27) hx hb dX4_runSchedule_55 (by decide) ?_
              exact ih (t + 1) (by omega) (krh E (ksi E w ns) w) (by rw [krh_lo E _ _ (by decide) (by decide) (by decide)]; exact hw1) (by rw [hw2]; simp only [krs, c1, c2, hcl, c4, c5, if_false, ↓reduceIte]) (by rw [hw3]; simp only [krs, c1, c2, hcl, c4, c5, if_false, ↓reduceIte]; omega) _ _ ls (by first | exact hH | (simp only [ksdr, ksdm, c1, c2, hcl, c4, c5, if_true, if_false, ↓reduceIte]; exact hH)) (by first | exact lv_sub hl [1, 2, 3, 0] rfl | (have h := lv_sub hl [1, 2, 3, 0] rfl; simp only [ksdr, ksdm, c1, c2, hcl, c4, c5, if_true, if_false, ↓reduceIte]; exact h))
      exact loop27 N 0 (Nat.zero_add _) v hns rfl (Nat.zero_add _).symm _ _ ls hH (lv_sub hl [1, 2, 3, 0] rfl)
    · skip
      refine lv_ldc (v := -1000003) hx hb hown (hts (.constant RX4 51 (-1000003)) (by decide +kernel)) dX4_runSchedule_22 ?_
      exact g_iret F hr hlk hH (by first | (simp only [ksdr, c1, c2, if_true, if_false, ↓reduceIte]; done) | (simp only [ksdr, c1, c2, if_true, if_false, ↓reduceIte]; rw [hw3]; simp only [krs, c1, c2, if_true, ↓reduceIte, Nat.add_zero])) (by first | (simp only [ksdm, c1, c2, if_true, if_false, ↓reduceIte]; done) | (simp only [ksdm, c1, c2, if_true, if_false, ↓reduceIte]; rw [hw2]; simp only [krs, c1, c2, if_true, ↓reduceIte])) dX4_runSchedule_24

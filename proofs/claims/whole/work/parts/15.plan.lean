set_option maxHeartbeats 4000000 in
set_option maxRecDepth 100000 in
theorem c_X4_chooseInlet (l : Launch) (E : Ev) (hE : EO E) (v : Mem) (h12 : eNb E 1 = eNb E 2) (hv6 : isB (v 6 0)) : Ci l yX4_chooseInlet wsX4_chooseInlet ({ frames := 4, cells := 0, slots := 0, locals := 104 } : Room) E [.ref (eAd E 0)] v ((kch E 31 0 v).2) ((kch E 31 0 v).1) := by
  refine Ci.of (cc := cX4_chooseInlet) (maxL := 2) (ret := (some .int)) (own := RX4) (by decide) rfl rfl (Nat.le_of_ble_eq_true rfl) ?_
  intro p e s m below meth c F hr hlk ls hl hH
  obtain ⟨hx, hb, hml, hown, hts⟩ := id F.1
  have hl : lv_has ls 2 [(0, .ref (eAd E 0))] := hl
  have inJx4a65c : ∀ w ∈ wsJx4a65c0, w ∈ wsX4_chooseInlet := fun w h => List.mem_cons_of_mem _ (List.mem_append_left _ (List.mem_append_right _ h))
  have inX0 : ∀ w ∈ wsX00, w ∈ wsX4_chooseInlet := fun w h => List.mem_cons_of_mem _ (List.mem_append_right _ h)
  have inX1 : ∀ w ∈ wsX10, w ∈ wsX4_chooseInlet := fun w h => List.mem_cons_of_mem _ (List.mem_append_left _ (List.mem_append_left _ (List.mem_append_right _ h)))
  have inX3 : ∀ w ∈ wsX30, w ∈ wsX4_chooseInlet := fun w h => List.mem_cons_of_mem _ (List.mem_append_left _ (List.mem_append_left _ (List.mem_append_left _ (List.mem_append_right _ h))))
  have inX4 : ∀ w ∈ wsX40, w ∈ wsX4_chooseInlet := fun w h => List.mem_cons_of_mem _ (List.mem_append_left _ (List.mem_append_left _ (List.mem_append_left _ (List.mem_append_left _ (List.mem_append_right _ h)))))
  refine lv_iconst (v := 0) hx hb dX4_chooseInlet_0 (by decide) ?_
  refine lv_istore_n (lv' := [(1, .int 0), (0, .ref (eAd E 0))]) hx hb dX4_chooseInlet_1 rfl hl (by decide) rfl (fun ls hl => ?_)
  have loop2 : ∀ (n t : Nat), t + n = 31 → ∀ (w : Mem), isB (w 6 0) → kch E 31 0 v = kch E n t w → ∀ (H : Heap) (locs : List Loc) (ls : Array Slot), HS E s.heap w H locs → lv_has ls 2 [(0, .ref (eAd E 0)), (1, .int (nI (10 * t)))] → W p l e ({ frames := 4, cells := 0, slots := 0, locals := 104 } : Room) s m ([.ref (eAd E 0)] : List Value).toArray below meth c H locs 0 0 (Zi below E ([.ref (eAd E 0)] : List Value).toArray s ((kch E 31 0 v).2) ((kch E 31 0 v).1)) (F0 m 2 ls []) := by
    intro n
    induction n with
    | zero =>
      intro t ht w hw1 hw2 H locs ls hH hl
      obtain rfl : 31 = t := by omega
      refine lv_iload_n hx hb dX4_chooseInlet_2 rfl (lv_at hl 1 rfl) ?_
      refine lv_sipush (v := 300) hx hb dX4_chooseInlet_3 (by decide) ?_
      refine lv_icmp_gt (tgt := 58) hx hb dX4_chooseInlet_6 (by decide) (fun c1 => ?_) (fun c1 => ?_)
      · skip
        refine lv_ldc (v := -1000006) hx hb hown (hts (.constant RX4 176 (-1000006)) (by decide +kernel)) dX4_chooseInlet_58 ?_
        exact g_iret F hr hlk hH (by rw [hw2]; first | rfl | exact (congrArg Prod.snd (kch_stop E n t w c1)).symm) (by rw [hw2]; first | rfl | exact (congrArg Prod.fst (kch_stop E n t w c1)).symm) dX4_chooseInlet_60
      · skip
        exact absurd (by decide) c1
    | succ n ih =>
      intro t ht w hw1 hw2 H locs ls hH hl
      have htN : t < 31 := by omega
      refine lv_iload_n hx hb dX4_chooseInlet_2 rfl (lv_at hl 1 rfl) ?_
      refine lv_sipush (v := 300) hx hb dX4_chooseInlet_3 (by decide) ?_
      refine lv_icmp_gt (tgt := 58) hx hb dX4_chooseInlet_6 (by decide) (fun c2 => ?_) (fun c2 => ?_)
      · skip
        exact absurd c2 (nI_nlt (a := 300) (by omega) (by omega))
      · skip
        refine lv_aload_n hx hb dX4_chooseInlet_9 rfl (lv_at hl 0 rfl) ?_
        refine g_get (x := .ref (eAd E 7)) F hH inX4 (hE.1 0 (by decide)) (cq_kiln E _) rfl 4 (by decide) (hts (.fieldLink RX4 33 "DryingKiln" "trial" "LDryingKiln$Load;") (by decide +kernel)) (fun _ h => h) rfl dX4_chooseInlet_10 ?_
        refine lv_aload_n hx hb dX4_chooseInlet_13 rfl (lv_at hl 0 rfl) ?_
        refine g_get (x := .ref (eAd E 6)) F hH inX4 (hE.1 0 (by decide)) (cq_kiln E _) rfl 3 (by decide) (hts (.fieldLink RX4 30 "DryingKiln" "planned" "LDryingKiln$Load;") (by decide +kernel)) (fun _ h => h) rfl dX4_chooseInlet_14 ?_
        refine g_vv (As := [.ref (eAd E 6)]) F hH (c_X1_copyFrom l E hE w 2 1 (by decide) (by decide) (by decide) h12 hw1) (cwV 1 hts gX4_chooseInlet_X1_copyFrom rfl rfl rfl (by decide +kernel) ⟨Nat.le_of_ble_eq_true rfl, Nat.le_of_ble_eq_true rfl⟩) (hE.1 7 (by decide)) (cq_ld E _ (i := 2) (by decide)) rfl rfl hl.1 [] rfl (Nat.le_of_ble_eq_true rfl) dX4_chooseInlet_17 ⟨Nat.zero_le _, Nat.zero_le _⟩ (fun H locs hH => ?_)
        refine lv_aload_n hx hb dX4_chooseInlet_20 rfl (lv_at hl 0 rfl) ?_
        refine g_get (x := .ref (eAd E 7)) F hH inX4 (hE.1 0 (by decide)) (cq_kiln E _) rfl 4 (by decide) (hts (.fieldLink RX4 33 "DryingKiln" "trial" "LDryingKiln$Load;") (by decide +kernel)) (fun _ h => h) rfl dX4_chooseInlet_21 ?_
        refine lv_iload_n hx hb dX4_chooseInlet_24 rfl (lv_at hl 1 rfl) ?_
        refine lv_aload_n hx hb dX4_chooseInlet_25 rfl (lv_at hl 0 rfl) ?_
        refine g_get (x := .ref (eAd E 1)) F hH inX4 (hE.1 0 (by decide)) (cq_kiln E _) rfl 0 (by decide) (hts (.fieldLink RX4 10 "DryingKiln" "settings" "LDryingKiln$Settings;") (by decide +kernel)) (fun _ h => h) rfl dX4_chooseInlet_26 ?_
        refine g_vi (As := [.int (nI (10 * t)), .ref (eAd E 1)]) F hH (c_X1_passDryingHour l E hE (lcpy E 2 1 w) 2 (nI (10 * t)) (by first | assumption | omega | decide)) (cwV 2 hts gX4_chooseInlet_X1_passDryingHour rfl rfl rfl (by decide +kernel) ⟨Nat.le_of_ble_eq_true rfl, Nat.le_of_ble_eq_true rfl⟩) (hE.1 7 (by decide)) (cq_ld E _ (i := 2) (by decide)) rfl rfl hl.1 [] rfl (Nat.le_of_ble_eq_true rfl) dX4_chooseInlet_29 ⟨Nat.zero_le _, Nat.zero_le _⟩ (fun H locs hH => ?_)
        refine lv_pop hx hb dX4_chooseInlet_32 rfl ?_
        refine lv_aload_n hx hb dX4_chooseInlet_33 rfl (lv_at hl 0 rfl) ?_
        refine g_get (x := .ref (eAd E 7)) F hH inX4 (hE.1 0 (by decide)) (cq_kiln E _) rfl 4 (by decide) (hts (.fieldLink RX4 33 "DryingKiln" "trial" "LDryingKiln$Load;") (by decide +kernel)) (fun _ h => h) rfl dX4_chooseInlet_34 ?_
        refine g_vi (As := []) F hH (c_X1_greatestGradient l E hE (ldry E 2 (nI (10 * t)) (lcpy E 2 1 w)) 2 (by first | assumption | omega | decide)) (cwV 0 hts gX4_chooseInlet_X1_greatestGradient rfl rfl rfl (by decide +kernel) ⟨Nat.le_of_ble_eq_true rfl, Nat.le_of_ble_eq_true rfl⟩) (hE.1 7 (by decide)) (cq_ld E _ (i := 2) (by decide)) rfl rfl hl.1 [] rfl (Nat.le_of_ble_eq_true rfl) dX4_chooseInlet_37 ⟨Nat.zero_le _, Nat.zero_le _⟩ (fun H locs hH => ?_)
        refine lv_aload_n hx hb dX4_chooseInlet_40 rfl (lv_at hl 0 rfl) ?_
        refine g_get (x := .ref (eAd E 1)) F hH inX4 (hE.1 0 (by decide)) (cq_kiln E _) rfl 0 (by decide) (hts (.fieldLink RX4 10 "DryingKiln" "settings" "LDryingKiln$Settings;") (by decide +kernel)) (fun _ h => h) rfl dX4_chooseInlet_41 ?_
        refine g_get (x := .int ((ldry E 2 (nI (10 * t)) (lcpy E 2 1 w)) 1 3)) F hH inX3 (hE.1 1 (by decide)) (cq_set E _) rfl 3 (by decide) (hts (.fieldLink RX4 107 "DryingKiln$Settings" "strainLimit" "I") (by decide +kernel)) (fun _ h => h) rfl dX4_chooseInlet_44 ?_
        refine lv_icmp_gt (tgt := 52) hx hb dX4_chooseInlet_47 (by decide) (fun c3 => ?_) (fun c3 => ?_)
        · skip
          refine lv_iinc (v := nI (10 * (t + 1))) (lv' := [(1, .int (nI (10 * (t + 1)))), (0, .ref (eAd E 0))]) hx hb dX4_chooseInlet_52 hl (k := 1) rfl (by rw [show 10 * (t + 1) = 10 * t + 10 by omega, ← nI_add]; rfl) (by decide) rfl (fun ls hl => ?_)
          refine lv_goto (tgt := 2) hx hb dX4_chooseInlet_55 (by decide) ?_
          exact ih (t + 1) (by omega) (ktry E t w) (by rw [ktry_lo E t w (by decide) (by decide)]; exact hw1) (hw2.trans (if_pos c3)) _ _ ls (by first | exact hH | (simp only [c2, c3, if_true, if_false, ↓reduceIte]; exact hH)) (by first | exact lv_sub hl [1, 0] rfl | (have h := lv_sub hl [1, 0] rfl; simp only [c2, c3, if_true, if_false, ↓reduceIte]; exact h))
        · skip
          refine lv_iload_n hx hb dX4_chooseInlet_50 rfl (lv_at hl 1 rfl) ?_
          exact g_iret F hr hlk hH (by rw [hw2]; first | rfl | exact (congrArg Prod.snd (kch_stop E n t w c3)).symm) (by rw [hw2]; first | rfl | exact (congrArg Prod.fst (kch_stop E n t w c3)).symm) dX4_chooseInlet_51
  exact loop2 31 0 (Nat.zero_add _) v hv6 rfl _ _ ls hH (lv_sub hl [1, 0] rfl)

set_option maxHeartbeats 4000000 in
set_option maxRecDepth 100000 in
theorem c_X4_makePlan (l : Launch) (E : Ev) (hE : EO E) (v : Mem) (a : Int32) (h01 : eNb E 0 = eNb E 1) (h12 : eNb E 1 = eNb E 2) (hv5 : isB (v 5 0)) : Ci l yX4_makePlan wsX4_makePlan ({ frames := 5, cells := 0, slots := 0, locals := 125 } : Room) E [.ref (eAd E 0), .int a] v (kplr E v a) (kplm E v a) := by
  refine Ci.of (cc := cX4_makePlan) (maxL := 4) (ret := (some .int)) (own := RX4) (by decide) rfl rfl (Nat.le_of_ble_eq_true rfl) ?_
  intro p e s m below meth c F hr hlk ls hl hH
  obtain ⟨hx, hb, hml, hown, hts⟩ := id F.1
  have hl : lv_has ls 4 [(0, .ref (eAd E 0)), (1, .int a)] := hl
  have inJx4a65c : ∀ w ∈ wsJx4a65c0, w ∈ wsX4_makePlan := fun w h => List.mem_cons_of_mem _ (List.mem_append_left _ (List.mem_append_left _ (List.mem_append_right _ h)))
  have inX0 : ∀ w ∈ wsX00, w ∈ wsX4_makePlan := fun w h => List.mem_cons_of_mem _ (List.mem_append_left _ (List.mem_append_right _ h))
  have inX1 : ∀ w ∈ wsX10, w ∈ wsX4_makePlan := fun w h => List.mem_cons_of_mem _ (List.mem_append_left _ (List.mem_append_left _ (List.mem_append_left _ (List.mem_append_right _ h))))
  have inX3 : ∀ w ∈ wsX30, w ∈ wsX4_makePlan := fun w h => List.mem_cons_of_mem _ (List.mem_append_right _ h)
  have inX4 : ∀ w ∈ wsX40, w ∈ wsX4_makePlan := fun w h => List.mem_cons_of_mem _ (List.mem_append_left _ (List.mem_append_left _ (List.mem_append_left _ (List.mem_append_left _ (List.mem_append_right _ h)))))
  refine lv_aload_n hx hb dX4_makePlan_0 rfl (lv_at hl 0 rfl) ?_
  refine g_get (x := .ref (eAd E 6)) F hH inX4 (hE.1 0 (by decide)) (cq_kiln E _) rfl 3 (by decide) (hts (.fieldLink RX4 30 "DryingKiln" "planned" "LDryingKiln$Load;") (by decide +kernel)) (fun _ h => h) rfl dX4_makePlan_1 ?_
  refine lv_aload_n hx hb dX4_makePlan_4 rfl (lv_at hl 0 rfl) ?_
  refine g_get (x := .ref (eAd E 5)) F hH inX4 (hE.1 0 (by decide)) (cq_kiln E _) rfl 2 (by decide) (hts (.fieldLink RX4 26 "DryingKiln" "load" "LDryingKiln$Load;") (by decide +kernel)) (fun _ h => h) rfl dX4_makePlan_5 ?_
  refine g_vv (As := [.ref (eAd E 5)]) F hH (c_X1_copyFrom l E hE v 1 0 (by decide) (by decide) (by decide) h01 hv5) (cwV 1 hts gX4_makePlan_X1_copyFrom rfl rfl rfl (by decide +kernel) ⟨Nat.le_of_ble_eq_true rfl, Nat.le_of_ble_eq_true rfl⟩) (hE.1 6 (by decide)) (cq_ld E _ (i := 1) (by decide)) rfl rfl hl.1 [] rfl (Nat.le_of_ble_eq_true rfl) dX4_makePlan_8 ⟨Nat.zero_le _, Nat.zero_le _⟩ (fun H locs hH => ?_)
  refine lv_iconst (v := 0) hx hb dX4_makePlan_11 (by decide) ?_
  refine lv_istore_n (lv' := [(2, .int 0), (0, .ref (eAd E 0)), (1, .int a)]) hx hb dX4_makePlan_12 rfl hl (by decide) rfl (fun ls hl => ?_)
  have loop13 : ∀ (n t : Nat), t + n = 300 → ∀ (w : Mem), isB (w 6 0) → kpn E a 300 0 (lcpy E 1 0 v) = kpn E a n t w → ∀ (H : Heap) (locs : List Loc) (ls : Array Slot), HS E s.heap w H locs → lv_has ls 4 [(0, .ref (eAd E 0)), (1, .int a), (2, .int (nI t))] → W p l e ({ frames := 5, cells := 0, slots := 0, locals := 125 } : Room) s m ([.ref (eAd E 0), .int a] : List Value).toArray below meth c H locs 0 0 (Zi below E ([.ref (eAd E 0), .int a] : List Value).toArray s (kplr E v a) (kplm E v a)) (F0 m 13 ls []) := by
    intro n
    induction n with
    | zero =>
      intro t ht w hw1 hw2 H locs ls hH hl
      obtain rfl : 300 = t := by omega
      refine lv_iload_n hx hb dX4_makePlan_13 rfl (lv_at hl 2 rfl) ?_
      refine lv_aload_n hx hb dX4_makePlan_14 rfl (lv_at hl 0 rfl) ?_
      refine g_get (x := .ref (eAd E 11)) F hH inX4 (hE.1 0 (by decide)) (cq_kiln E _) rfl 5 (by decide) (hts (.fieldLink RX4 36 "DryingKiln" "plan" "[I") (by decide +kernel)) (fun _ h => h) rfl dX4_makePlan_15 ?_
      refine g_alen (n := 300) F hH (hE.1 11 (by decide)) rfl dX4_makePlan_18 ?_
      refine lv_icmp_ge (tgt := 82) hx hb dX4_makePlan_19 (by decide) (fun c1 => ?_) (fun c1 => ?_)
      · skip
        have hfin : kpn E a 300 0 (lcpy E 1 0 v) = (w, 300) := by first | exact hw2 | exact hw2.trans (if_pos (by assumption))
        refine lv_aload_n hx hb dX4_makePlan_82 rfl (lv_at hl 0 rfl) ?_
        refine g_get (x := .ref (eAd E 6)) F hH inX4 (hE.1 0 (by decide)) (cq_kiln E _) rfl 3 (by decide) (hts (.fieldLink RX4 30 "DryingKiln" "planned" "LDryingKiln$Load;") (by decide +kernel)) (fun _ h => h) rfl dX4_makePlan_83 ?_
        refine lv_iload_n hx hb dX4_makePlan_86 rfl (lv_at hl 1 rfl) ?_
        refine g_vi (As := [.int a]) F hH (c_X1_isWetterThan l E hE w 1 a (by first | assumption | omega | decide)) (cwV 1 hts gX4_makePlan_X1_isWetterThan rfl rfl rfl (by decide +kernel) ⟨Nat.le_of_ble_eq_true rfl, Nat.le_of_ble_eq_true rfl⟩) (hE.1 6 (by decide)) (cq_ld E _ (i := 1) (by decide)) rfl rfl hl.1 [] rfl (Nat.le_of_ble_eq_true rfl) dX4_makePlan_87 ⟨Nat.zero_le _, Nat.zero_le _⟩ (fun H locs hH => ?_)
        refine lv_if_eq (tgt := 98) hx hb dX4_makePlan_90 (by decide) (fun c2 => ?_) (fun c2 => ?_)
        · skip
          refine lv_iload_n hx hb dX4_makePlan_98 rfl (lv_at hl 2 rfl) ?_
          exact g_iret F hr hlk hH (by unfold kplr kplm; rw [hfin]; first | exact (if_pos c2).symm | exact (if_neg c2).symm) (by unfold kplm; rw [hfin]) dX4_makePlan_99
        · skip
          refine lv_ldc (v := -1000005) hx hb hown (hts (.constant RX4 140 (-1000005)) (by decide +kernel)) dX4_makePlan_93 ?_
          refine lv_goto (tgt := 99) hx hb dX4_makePlan_95 (by decide) ?_
          exact g_iret F hr hlk hH (by unfold kplr kplm; rw [hfin]; first | exact (if_pos c2).symm | exact (if_neg c2).symm) (by unfold kplm; rw [hfin]) dX4_makePlan_99
      · skip
        exact absurd (nI_le (Nat.le_refl _) (by omega)) c1
    | succ n ih =>
      intro t ht w hw1 hw2 H locs ls hH hl
      have htN : t < 300 := by omega
      refine lv_iload_n hx hb dX4_makePlan_13 rfl (lv_at hl 2 rfl) ?_
      refine lv_aload_n hx hb dX4_makePlan_14 rfl (lv_at hl 0 rfl) ?_
      refine g_get (x := .ref (eAd E 11)) F hH inX4 (hE.1 0 (by decide)) (cq_kiln E _) rfl 5 (by decide) (hts (.fieldLink RX4 36 "DryingKiln" "plan" "[I") (by decide +kernel)) (fun _ h => h) rfl dX4_makePlan_15 ?_
      refine g_alen (n := 300) F hH (hE.1 11 (by decide)) rfl dX4_makePlan_18 ?_
      refine lv_icmp_ge (tgt := 82) hx hb dX4_makePlan_19 (by decide) (fun c3 => ?_) (fun c3 => ?_)
      · skip
        exact absurd c3 (nI_ge htN (by omega))
      · skip
        refine lv_aload_n hx hb dX4_makePlan_22 rfl (lv_at hl 0 rfl) ?_
        refine g_get (x := .ref (eAd E 6)) F hH inX4 (hE.1 0 (by decide)) (cq_kiln E _) rfl 3 (by decide) (hts (.fieldLink RX4 30 "DryingKiln" "planned" "LDryingKiln$Load;") (by decide +kernel)) (fun _ h => h) rfl dX4_makePlan_23 ?_
        refine lv_iload_n hx hb dX4_makePlan_26 rfl (lv_at hl 1 rfl) ?_
        refine g_vi (As := [.int a]) F hH (c_X1_isWetterThan l E hE w 1 a (by first | assumption | omega | decide)) (cwV 1 hts gX4_makePlan_X1_isWetterThan rfl rfl rfl (by decide +kernel) ⟨Nat.le_of_ble_eq_true rfl, Nat.le_of_ble_eq_true rfl⟩) (hE.1 6 (by decide)) (cq_ld E _ (i := 1) (by decide)) rfl rfl hl.1 [] rfl (Nat.le_of_ble_eq_true rfl) dX4_makePlan_27 ⟨Nat.zero_le _, Nat.zero_le _⟩ (fun H locs hH => ?_)
        refine lv_if_eq (tgt := 82) hx hb dX4_makePlan_30 (by decide) (fun c4 => ?_) (fun c4 => ?_)
        · skip
          have hfin : kpn E a 300 0 (lcpy E 1 0 v) = (w, t) := by first | exact hw2 | exact hw2.trans (if_pos (by assumption))
          refine lv_aload_n hx hb dX4_makePlan_82 rfl (lv_at hl 0 rfl) ?_
          refine g_get (x := .ref (eAd E 6)) F hH inX4 (hE.1 0 (by decide)) (cq_kiln E _) rfl 3 (by decide) (hts (.fieldLink RX4 30 "DryingKiln" "planned" "LDryingKiln$Load;") (by decide +kernel)) (fun _ h => h) rfl dX4_makePlan_83 ?_
          refine lv_iload_n hx hb dX4_makePlan_86 rfl (lv_at hl 1 rfl) ?_
          refine g_vi (As := [.int a]) F hH (c_X1_isWetterThan l E hE w 1 a (by first | assumption | omega | decide)) (cwV 1 hts gX4_makePlan_X1_isWetterThan rfl rfl rfl (by decide +kernel) ⟨Nat.le_of_ble_eq_true rfl, Nat.le_of_ble_eq_true rfl⟩) (hE.1 6 (by decide)) (cq_ld E _ (i := 1) (by decide)) rfl rfl hl.1 [] rfl (Nat.le_of_ble_eq_true rfl) dX4_makePlan_87 ⟨Nat.zero_le _, Nat.zero_le _⟩ (fun H locs hH => ?_)
          refine lv_if_eq (tgt := 98) hx hb dX4_makePlan_90 (by decide) (fun c5 => ?_) (fun c5 => ?_)
          · skip
            refine lv_iload_n hx hb dX4_makePlan_98 rfl (lv_at hl 2 rfl) ?_
            exact g_iret F hr hlk hH (by unfold kplr kplm; rw [hfin]; first | exact (if_pos c5).symm | exact (if_neg c5).symm) (by unfold kplm; rw [hfin]) dX4_makePlan_99
          · skip
            refine lv_ldc (v := -1000005) hx hb hown (hts (.constant RX4 140 (-1000005)) (by decide +kernel)) dX4_makePlan_93 ?_
            refine lv_goto (tgt := 99) hx hb dX4_makePlan_95 (by decide) ?_
            exact g_iret F hr hlk hH (by unfold kplr kplm; rw [hfin]; first | exact (if_pos c5).symm | exact (if_neg c5).symm) (by unfold kplm; rw [hfin]) dX4_makePlan_99
        · skip
          refine lv_aload_n hx hb dX4_makePlan_33 rfl (lv_at hl 0 rfl) ?_
          refine g_vi (As := []) F hH (c_X4_chooseInlet l E hE w h12 hw1) (cwV 0 hts gX4_makePlan_X4_chooseInlet rfl rfl rfl (by decide +kernel) ⟨Nat.le_of_ble_eq_true rfl, Nat.le_of_ble_eq_true rfl⟩) (hE.1 0 (by decide)) (cq_kiln E _) rfl rfl hl.1 [] rfl (Nat.le_of_ble_eq_true rfl) dX4_makePlan_34 ⟨Nat.zero_le _, Nat.zero_le _⟩ (fun H locs hH => ?_)
          refine lv_istore_n (lv' := [(3, .int ((kch E 31 0 w).2)), (0, .ref (eAd E 0)), (1, .int a), (2, .int (nI t))]) hx hb dX4_makePlan_37 rfl hl (by decide) rfl (fun ls hl => ?_)
          refine lv_aload_n hx hb dX4_makePlan_38 rfl (lv_at hl 1 rfl) ?_
          refine g_get (x := .ref (eAd E 11)) F hH inX4 (hE.1 0 (by decide)) (cq_kiln E _) rfl 5 (by decide) (hts (.fieldLink RX4 36 "DryingKiln" "plan" "[I") (by decide +kernel)) (fun _ h => h) rfl dX4_makePlan_39 ?_
          refine lv_iload_n hx hb dX4_makePlan_42 rfl (lv_at hl 3 rfl) ?_
          refine lv_iload_n hx hb dX4_makePlan_43 rfl (lv_at hl 0 rfl) ?_
          refine g_iast (n := 300) F hH (hE.1 11 (by decide)) (fun _ => rfl) t rfl (by omega) (by omega) dX4_makePlan_44 (fun H locs hH => ?_)
          refine lv_iload_n hx hb dX4_makePlan_45 rfl (lv_at hl 0 rfl) ?_
          refine lv_ldc (v := -1000006) hx hb hown (hts (.constant RX4 176 (-1000006)) (by decide +kernel)) dX4_makePlan_46 ?_
          refine lv_icmp_ne (tgt := 65) hx hb dX4_makePlan_48 (by decide) (fun c6 => ?_) (fun c6 => ?_)
          · skip
            refine lv_aload_n hx hb dX4_makePlan_65 rfl (lv_at hl 1 rfl) ?_
            refine g_get (x := .ref (eAd E 6)) F hH inX4 (hE.1 0 (by decide)) (cq_kiln E _) rfl 3 (by decide) (hts (.fieldLink RX4 30 "DryingKiln" "planned" "LDryingKiln$Load;") (by decide +kernel)) (fun _ h => h) rfl dX4_makePlan_66 ?_
            refine lv_aload_n hx hb dX4_makePlan_69 rfl (lv_at hl 1 rfl) ?_
            refine g_get (x := .ref (eAd E 7)) F hH inX4 (hE.1 0 (by decide)) (cq_kiln E _) rfl 4 (by decide) (hts (.fieldLink RX4 33 "DryingKiln" "trial" "LDryingKiln$Load;") (by decide +kernel)) (fun _ h => h) rfl dX4_makePlan_70 ?_
            refine g_vv (As := [.ref (eAd E 7)]) F hH (c_X1_copyFrom l E hE (st ((kch E 31 0 w).1) 11 t ((kch E 31 0 w).2)) 1 2 (by decide) (by decide) (by decide) h12.symm (by show isB (st _ 11 t _ 7 0); rw [st_ne _ _ _ (by decide)]; exact kch_isB E 31 0 w hw1 c6)) (cwV 1 hts gX4_makePlan_X1_copyFrom rfl rfl rfl (by decide +kernel) ⟨Nat.le_of_ble_eq_true rfl, Nat.le_of_ble_eq_true rfl⟩) (hE.1 6 (by decide)) (cq_ld E _ (i := 1) (by decide)) rfl rfl hl.1 [] rfl (Nat.le_of_ble_eq_true rfl) dX4_makePlan_73 ⟨Nat.zero_le _, Nat.zero_le _⟩ (fun H locs hH => ?_)
            refine lv_iinc (v := nI (t + 1)) (lv' := [(2, .int (nI (t + 1))), (3, .int ((kch E 31 0 w).2)), (0, .ref (eAd E 0)), (1, .int a)]) hx hb dX4_makePlan_76 hl (k := 3) rfl (nI_1 _) (by decide) rfl (fun ls hl => ?_)
            refine lv_goto (tgt := 13) hx hb dX4_makePlan_79 (by decide) ?_
            exact ih (t + 1) (by omega) (kps E t w) (kps_isB E t hw1) (hw2.trans (if_neg c4)) _ _ ls (by unfold kps; first | (rw [if_pos c6]; exact hH) | (rw [if_neg c6]; exact hH)) (by first | exact lv_sub hl [2, 3, 0] rfl | (have h := lv_sub hl [2, 3, 0] rfl; simp only [c3, c4, c6, if_true, if_false, ↓reduceIte]; exact h))
          · skip
            refine lv_aload_n hx hb dX4_makePlan_51 rfl (lv_at hl 1 rfl) ?_
            refine g_get (x := .ref (eAd E 6)) F hH inX4 (hE.1 0 (by decide)) (cq_kiln E _) rfl 3 (by decide) (hts (.fieldLink RX4 30 "DryingKiln" "planned" "LDryingKiln$Load;") (by decide +kernel)) (fun _ h => h) rfl dX4_makePlan_52 ?_
            refine lv_aload_n hx hb dX4_makePlan_55 rfl (lv_at hl 1 rfl) ?_
            refine g_get (x := .ref (eAd E 1)) F hH inX4 (hE.1 0 (by decide)) (cq_kiln E _) rfl 0 (by decide) (hts (.fieldLink RX4 10 "DryingKiln" "settings" "LDryingKiln$Settings;") (by decide +kernel)) (fun _ h => h) rfl dX4_makePlan_56 ?_
            refine g_vv (As := [.ref (eAd E 1)]) F hH (c_X1_passRestHour l E hE (st ((kch E 31 0 w).1) 11 t ((kch E 31 0 w).2)) 1 (by first | assumption | omega | decide)) (cwV 1 hts gX4_makePlan_X1_passRestHour rfl rfl rfl (by decide +kernel) ⟨Nat.le_of_ble_eq_true rfl, Nat.le_of_ble_eq_true rfl⟩) (hE.1 6 (by decide)) (cq_ld E _ (i := 1) (by decide)) rfl rfl hl.1 [] rfl (Nat.le_of_ble_eq_true rfl) dX4_makePlan_59 ⟨Nat.zero_le _, Nat.zero_le _⟩ (fun H locs hH => ?_)
            refine lv_goto (tgt := 76) hx hb dX4_makePlan_62 (by decide) ?_
            refine lv_iinc (v := nI (t + 1)) (lv' := [(2, .int (nI (t + 1))), (3, .int ((kch E 31 0 w).2)), (0, .ref (eAd E 0)), (1, .int a)]) hx hb dX4_makePlan_76 hl (k := 3) rfl (nI_1 _) (by decide) rfl (fun ls hl => ?_)
            refine lv_goto (tgt := 13) hx hb dX4_makePlan_79 (by decide) ?_
            exact ih (t + 1) (by omega) (kps E t w) (kps_isB E t hw1) (hw2.trans (if_neg c4)) _ _ ls (by unfold kps; first | (rw [if_pos c6]; exact hH) | (rw [if_neg c6]; exact hH)) (by first | exact lv_sub hl [2, 3, 0] rfl | (have h := lv_sub hl [2, 3, 0] rfl; simp only [c3, c4, c6, if_true, if_false, ↓reduceIte]; exact h))
  exact loop13 300 0 (Nat.zero_add _) (lcpy E 1 0 v) (isB_lcpy E (i := 1) (o := 0) hv5) rfl _ _ ls hH (lv_sub hl [1, 2, 0] rfl)

set_option maxHeartbeats 4000000 in
set_option maxRecDepth 100000 in
theorem c_X4_plannedHours (l : Launch) (E : Ev) (hE : EO E) (v : Mem) (a : Int32) (h01 : eNb E 0 = eNb E 1) (h12 : eNb E 1 = eNb E 2) (hv5 : isB (v 5 0)) : Ci l yX4_plannedHours wsX4_plannedHours ({ frames := 6, cells := 0, slots := 0, locals := 148 } : Room) E [.ref (eAd E 0), .int a] v (kphr E v a) (kphm E v a) := by
  refine Ci.of (cc := cX4_plannedHours) (maxL := 2) (ret := (some .int)) (own := RX4) (by decide) rfl rfl (Nat.le_of_ble_eq_true rfl) ?_
  intro p e s m below meth c F hr hlk ls hl hH
  obtain ⟨hx, hb, hml, hown, hts⟩ := id F.1
  have hl : lv_has ls 2 [(0, .ref (eAd E 0)), (1, .int a)] := hl
  have inJx4a65c : ∀ w ∈ wsJx4a65c0, w ∈ wsX4_plannedHours := fun w h => List.mem_cons_of_mem _ (List.mem_append_left _ (List.mem_append_left _ (List.mem_append_right _ h)))
  have inX0 : ∀ w ∈ wsX00, w ∈ wsX4_plannedHours := fun w h => List.mem_cons_of_mem _ (List.mem_append_left _ (List.mem_append_right _ h))
  have inX1 : ∀ w ∈ wsX10, w ∈ wsX4_plannedHours := fun w h => List.mem_cons_of_mem _ (List.mem_append_left _ (List.mem_append_left _ (List.mem_append_left _ (List.mem_append_right _ h))))
  have inX3 : ∀ w ∈ wsX30, w ∈ wsX4_plannedHours := fun w h => List.mem_cons_of_mem _ (List.mem_append_right _ h)
  have inX4 : ∀ w ∈ wsX40, w ∈ wsX4_plannedHours := fun w h => List.mem_cons_of_mem _ (List.mem_append_left _ (List.mem_append_left _ (List.mem_append_left _ (List.mem_append_left _ (List.mem_append_right _ h)))))
  refine lv_iload_n hx hb dX4_plannedHours_0 rfl (lv_at hl 1 rfl) ?_
  refine lv_iconst (v := 0) hx hb dX4_plannedHours_1 (by decide) ?_
  refine lv_sipush (v := 2000) hx hb dX4_plannedHours_2 (by decide) ?_
  refine g_si (As := [.int a, .int 0, .int 2000]) F hH (c_X4_isOutside l E hE v a 0 2000) (va_cwS 3 hts gX4_plannedHours_X4_isOutside rfl rfl rfl (by decide +kernel) ⟨Nat.le_of_ble_eq_true rfl, Nat.le_of_ble_eq_true rfl⟩) rfl hl.1 [] rfl (Nat.le_of_ble_eq_true rfl) dX4_plannedHours_5 ⟨Nat.zero_le _, Nat.zero_le _⟩ (fun H locs hH => ?_)
  refine lv_if_eq (tgt := 16) hx hb dX4_plannedHours_8 (by decide) (fun c1 => ?_) (fun c1 => ?_)
  · skip
    refine lv_aload_n hx hb dX4_plannedHours_16 rfl (lv_at hl 0 rfl) ?_
    refine lv_iload_n hx hb dX4_plannedHours_17 rfl (lv_at hl 1 rfl) ?_
    refine g_vi (As := [.int a]) F hH (c_X4_makePlan l E hE v a (by first | assumption | omega | decide) (by first | assumption | omega | decide) (by first | assumption | omega | decide)) (cwV 1 hts gX4_plannedHours_X4_makePlan rfl rfl rfl (by decide +kernel) ⟨Nat.le_of_ble_eq_true rfl, Nat.le_of_ble_eq_true rfl⟩) (hE.1 0 (by decide)) (cq_kiln E _) rfl rfl hl.1 [] rfl (Nat.le_of_ble_eq_true rfl) dX4_plannedHours_18 ⟨Nat.zero_le _, Nat.zero_le _⟩ (fun H locs hH => ?_)
    exact g_iret F hr hlk hH (by first | rfl | (simp only [kphr, kphm, c1, if_true, if_false, ↓reduceIte]; done) | (simp only [kphr, kphm, c1, if_true, if_false, ↓reduceIte]; rfl)) (by first | rfl | (simp only [kphr, kphm, c1, if_true, if_false, ↓reduceIte]; done) | (simp only [kphr, kphm, c1, if_true, if_false, ↓reduceIte]; rfl)) dX4_plannedHours_21
  · skip
    refine lv_ldc (v := -1000003) hx hb hown (hts (.constant RX4 51 (-1000003)) (by decide +kernel)) dX4_plannedHours_11 ?_
    refine lv_goto (tgt := 21) hx hb dX4_plannedHours_13 (by decide) ?_
    exact g_iret F hr hlk hH (by first | rfl | (simp only [kphr, kphm, c1, if_true, if_false, ↓reduceIte]; done) | (simp only [kphr, kphm, c1, if_true, if_false, ↓reduceIte]; rfl)) (by first | rfl | (simp only [kphr, kphm, c1, if_true, if_false, ↓reduceIte]; done) | (simp only [kphr, kphm, c1, if_true, if_false, ↓reduceIte]; rfl)) dX4_plannedHours_21

set_option maxHeartbeats 4000000 in
set_option maxRecDepth 100000 in
theorem c_X4_plannedInlet (l : Launch) (E : Ev) (hE : EO E) (v : Mem) (a : Int32) (b : Int32) (h01 : eNb E 0 = eNb E 1) (h12 : eNb E 1 = eNb E 2) (hv5 : isB (v 5 0)) : Ci l yX4_plannedInlet wsX4_plannedInlet ({ frames := 6, cells := 0, slots := 0, locals := 148 } : Room) E [.ref (eAd E 0), .int a, .int b] v (kpir E v a b) (kpim E v a b) := by
  refine Ci.of (cc := cX4_plannedInlet) (maxL := 3) (ret := (some .int)) (own := RX4) (by decide) rfl rfl (Nat.le_of_ble_eq_true rfl) ?_
  intro p e s m below meth c F hr hlk ls hl hH
  obtain ⟨hx, hb, hml, hown, hts⟩ := id F.1
  have hl : lv_has ls 3 [(0, .ref (eAd E 0)), (1, .int a), (2, .int b)] := hl
  have inJx4a65c : ∀ w ∈ wsJx4a65c0, w ∈ wsX4_plannedInlet := fun w h => List.mem_cons_of_mem _ (List.mem_append_left _ (List.mem_append_left _ (List.mem_append_right _ h)))
  have inX0 : ∀ w ∈ wsX00, w ∈ wsX4_plannedInlet := fun w h => List.mem_cons_of_mem _ (List.mem_append_left _ (List.mem_append_right _ h))
  have inX1 : ∀ w ∈ wsX10, w ∈ wsX4_plannedInlet := fun w h => List.mem_cons_of_mem _ (List.mem_append_left _ (List.mem_append_left _ (List.mem_append_left _ (List.mem_append_right _ h))))
  have inX3 : ∀ w ∈ wsX30, w ∈ wsX4_plannedInlet := fun w h => List.mem_cons_of_mem _ (List.mem_append_right _ h)
  have inX4 : ∀ w ∈ wsX40, w ∈ wsX4_plannedInlet := fun w h => List.mem_cons_of_mem _ (List.mem_append_left _ (List.mem_append_left _ (List.mem_append_left _ (List.mem_append_left _ (List.mem_append_right _ h)))))
  refine lv_iload_n hx hb dX4_plannedInlet_0 rfl (lv_at hl 1 rfl) ?_
  refine lv_iconst (v := 0) hx hb dX4_plannedInlet_1 (by decide) ?_
  refine lv_sipush (v := 2000) hx hb dX4_plannedInlet_2 (by decide) ?_
  refine g_si (As := [.int a, .int 0, .int 2000]) F hH (c_X4_isOutside l E hE v a 0 2000) (va_cwS 3 hts gX4_plannedInlet_X4_isOutside rfl rfl rfl (by decide +kernel) ⟨Nat.le_of_ble_eq_true rfl, Nat.le_of_ble_eq_true rfl⟩) rfl hl.1 [] rfl (Nat.le_of_ble_eq_true rfl) dX4_plannedInlet_5 ⟨Nat.zero_le _, Nat.zero_le _⟩ (fun H locs hH => ?_)
  refine lv_if_ne (tgt := 15) hx hb dX4_plannedInlet_8 (by decide) (fun c1 => ?_) (fun c1 => ?_)
  · skip
    refine lv_ldc (v := -1000003) hx hb hown (hts (.constant RX4 51 (-1000003)) (by decide +kernel)) dX4_plannedInlet_15 ?_
    exact g_iret F hr hlk hH (by first | rfl | (simp only [kpir, kpim, c1, if_true, if_false, ↓reduceIte]; done) | (simp only [kpir, kpim, c1, if_true, if_false, ↓reduceIte]; rfl)) (by first | rfl | (simp only [kpir, kpim, c1, if_true, if_false, ↓reduceIte]; done) | (simp only [kpir, kpim, c1, if_true, if_false, ↓reduceIte]; rfl)) dX4_plannedInlet_17
  · skip
    refine lv_iload_n hx hb dX4_plannedInlet_11 rfl (lv_at hl 2 rfl) ?_
    refine lv_if_ge (tgt := 18) hx hb dX4_plannedInlet_12 (by decide) (fun c2 => ?_) (fun c2 => ?_)
    · skip
      refine lv_iload_n hx hb dX4_plannedInlet_18 rfl (lv_at hl 2 rfl) ?_
      refine lv_aload_n hx hb dX4_plannedInlet_19 rfl (lv_at hl 0 rfl) ?_
      refine lv_iload_n hx hb dX4_plannedInlet_20 rfl (lv_at hl 1 rfl) ?_
      refine g_vi (As := [.int a]) F hH (c_X4_makePlan l E hE v a (by first | assumption | omega | decide) (by first | assumption | omega | decide) (by first | assumption | omega | decide)) (cwV 1 hts gX4_plannedInlet_X4_makePlan rfl rfl rfl (by decide +kernel) ⟨Nat.le_of_ble_eq_true rfl, Nat.le_of_ble_eq_true rfl⟩) (hE.1 0 (by decide)) (cq_kiln E _) rfl rfl hl.1 [.int b] rfl (Nat.le_of_ble_eq_true rfl) dX4_plannedInlet_21 ⟨Nat.zero_le _, Nat.zero_le _⟩ (fun H locs hH => ?_)
      refine lv_icmp_ge (tgt := 45) hx hb dX4_plannedInlet_24 (by decide) (fun c3 => ?_) (fun c3 => ?_)
      · skip
        refine lv_ldc (v := -1000005) hx hb hown (hts (.constant RX4 140 (-1000005)) (by decide +kernel)) dX4_plannedInlet_45 ?_
        exact g_iret F hr hlk hH (by first | rfl | (simp only [kpir, kpim, c1, c2, c3, if_true, if_false, ↓reduceIte]; done) | (simp only [kpir, kpim, c1, c2, c3, if_true, if_false, ↓reduceIte]; rfl)) (by first | rfl | (simp only [kpir, kpim, c1, c2, c3, if_true, if_false, ↓reduceIte]; done) | (simp only [kpir, kpim, c1, c2, c3, if_true, if_false, ↓reduceIte]; rfl)) dX4_plannedInlet_47
      · skip
        refine lv_iload_n hx hb dX4_plannedInlet_27 rfl (lv_at hl 2 rfl) ?_
        refine lv_aload_n hx hb dX4_plannedInlet_28 rfl (lv_at hl 0 rfl) ?_
        refine g_get (x := .ref (eAd E 11)) F hH inX4 (hE.1 0 (by decide)) (cq_kiln E _) rfl 5 (by decide) (hts (.fieldLink RX4 36 "DryingKiln" "plan" "[I") (by decide +kernel)) (fun _ h => h) rfl dX4_plannedInlet_29 ?_
        refine g_alen (n := 300) F hH (hE.1 11 (by decide)) rfl dX4_plannedInlet_32 ?_
        refine lv_icmp_ge (tgt := 45) hx hb dX4_plannedInlet_33 (by decide) (fun c4 => ?_) (fun c4 => ?_)
        · skip
          refine lv_ldc (v := -1000005) hx hb hown (hts (.constant RX4 140 (-1000005)) (by decide +kernel)) dX4_plannedInlet_45 ?_
          exact g_iret F hr hlk hH (by first | rfl | (simp only [kpir, kpim, c1, c2, c3, c4, if_true, if_false, ↓reduceIte]; done) | (simp only [kpir, kpim, c1, c2, c3, c4, if_true, if_false, ↓reduceIte]; rfl)) (by first | rfl | (simp only [kpir, kpim, c1, c2, c3, c4, if_true, if_false, ↓reduceIte]; done) | (simp only [kpir, kpim, c1, c2, c3, c4, if_true, if_false, ↓reduceIte]; rfl)) dX4_plannedInlet_47
        · skip
          obtain ⟨q, hq, rfl⟩ : ∃ q : Nat, q < 300 ∧ b = nI q := (by rcases pk_ix b (n := 300) (by omega) with h | h | h; exact absurd (Int32.lt_of_lt_of_le h c2) (Int32.lt_irrefl); exact absurd h c4; exact h)
          have hcq : (nI q).toNatClampNeg = q := nI_clamp (by omega)
          refine lv_aload_n hx hb dX4_plannedInlet_36 rfl (lv_at hl 0 rfl) ?_
          refine g_get (x := .ref (eAd E 11)) F hH inX4 (hE.1 0 (by decide)) (cq_kiln E _) rfl 5 (by decide) (hts (.fieldLink RX4 36 "DryingKiln" "plan" "[I") (by decide +kernel)) (fun _ h => h) rfl dX4_plannedInlet_37 ?_
          refine lv_iload_n hx hb dX4_plannedInlet_40 rfl (lv_at hl 2 rfl) ?_
          refine g_iald (n := 300) (x := (kplm E v a) 11 q) F hH (hE.1 11 (by decide)) rfl q rfl (by omega) (by omega) rfl dX4_plannedInlet_41 ?_
          refine lv_goto (tgt := 47) hx hb dX4_plannedInlet_42 (by decide) ?_
          exact g_iret F hr hlk hH (by first | rfl | (simp only [kpir, kpim, c1, c2, c3, c4, hcq, if_true, if_false, ↓reduceIte]; done) | (simp only [kpir, kpim, c1, c2, c3, c4, hcq, if_true, if_false, ↓reduceIte]; rfl)) (by first | rfl | (simp only [kpir, kpim, c1, c2, c3, c4, hcq, if_true, if_false, ↓reduceIte]; done) | (simp only [kpir, kpim, c1, c2, c3, c4, hcq, if_true, if_false, ↓reduceIte]; rfl)) dX4_plannedInlet_47
    · skip
      refine lv_ldc (v := -1000003) hx hb hown (hts (.constant RX4 51 (-1000003)) (by decide +kernel)) dX4_plannedInlet_15 ?_
      exact g_iret F hr hlk hH (by first | rfl | (simp only [kpir, kpim, c1, c2, if_true, if_false, ↓reduceIte]; done) | (simp only [kpir, kpim, c1, c2, if_true, if_false, ↓reduceIte]; rfl)) (by first | rfl | (simp only [kpir, kpim, c1, c2, if_true, if_false, ↓reduceIte]; done) | (simp only [kpir, kpim, c1, c2, if_true, if_false, ↓reduceIte]; rfl)) dX4_plannedInlet_17

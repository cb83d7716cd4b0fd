set_option maxHeartbeats 4000000 in
set_option maxRecDepth 100000 in
theorem c_X4_isOutside (l : Launch) (E : Ev) (hE : EO E) (v : Mem) (a : Int32) (b : Int32) (d : Int32) : Ci l yX4_isOutside wsX4_isOutside ({ frames := 0, cells := 0, slots := 0, locals := 0 } : Room) E [.int a, .int b, .int d] v (out a b d) v := by
  refine Ci.of (cc := cX4_isOutside) (maxL := 3) (ret := (some .boolean)) (own := RX4) (by decide) rfl rfl (Nat.le_of_ble_eq_true rfl) ?_
  intro p e s m below meth c F hr hlk ls hl hH
  obtain ⟨hx, hb, hml, hown, hts⟩ := id F.1
  have hl : lv_has ls 3 [(0, .int a), (1, .int b), (2, .int d)] := hl
  refine lv_iload_n hx hb dX4_isOutside_0 rfl (lv_at hl 0 rfl) ?_
  refine lv_iload_n hx hb dX4_isOutside_1 rfl (lv_at hl 1 rfl) ?_
  refine lv_icmp_lt (tgt := 10) hx hb dX4_isOutside_2 (by decide) (fun c1 => ?_) (fun c1 => ?_)
  · skip
    refine lv_iconst (v := 1) hx hb dX4_isOutside_10 (by decide) ?_
    refine lv_goto (tgt := 15) hx hb dX4_isOutside_11 (by decide) ?_
    exact g_zret F hr hlk hH (by rfl) (by first | rfl | (simp only [out, c1, if_true, if_false, ↓reduceIte]; done) | (simp only [out, c1, if_true, if_false, ↓reduceIte]; rfl)) (by first | rfl | (simp only [out, c1, if_true, if_false, ↓reduceIte]; done) | (simp only [out, c1, if_true, if_false, ↓reduceIte]; rfl)) dX4_isOutside_15
  · skip
    refine lv_iload_n hx hb dX4_isOutside_5 rfl (lv_at hl 0 rfl) ?_
    refine lv_iload_n hx hb dX4_isOutside_6 rfl (lv_at hl 2 rfl) ?_
    refine lv_icmp_le (tgt := 14) hx hb dX4_isOutside_7 (by decide) (fun c2 => ?_) (fun c2 => ?_)
    · skip
      refine lv_iconst (v := 0) hx hb dX4_isOutside_14 (by decide) ?_
      exact g_zret F hr hlk hH (by rfl) (by first | rfl | (simp only [out, c1, c2, if_true, if_false, ↓reduceIte]; done) | (simp only [out, c1, c2, if_true, if_false, ↓reduceIte]; rfl)) (by first | rfl | (simp only [out, c1, c2, if_true, if_false, ↓reduceIte]; done) | (simp only [out, c1, c2, if_true, if_false, ↓reduceIte]; rfl)) dX4_isOutside_15
    · skip
      refine lv_iconst (v := 1) hx hb dX4_isOutside_10 (by decide) ?_
      refine lv_goto (tgt := 15) hx hb dX4_isOutside_11 (by decide) ?_
      exact g_zret F hr hlk hH (by rfl) (by first | rfl | (simp only [out, c1, c2, if_true, if_false, ↓reduceIte]; done) | (simp only [out, c1, c2, if_true, if_false, ↓reduceIte]; rfl)) (by first | rfl | (simp only [out, c1, c2, if_true, if_false, ↓reduceIte]; done) | (simp only [out, c1, c2, if_true, if_false, ↓reduceIte]; rfl)) dX4_isOutside_15

set_option maxHeartbeats 4000000 in
set_option maxRecDepth 100000 in
theorem c_X4_quotient (l : Launch) (E : Ev) (hE : EO E) (v : Mem) (a : Int32) (b : Int32) : Ci l yX4_quotient wsX4_quotient ({ frames := 0, cells := 0, slots := 0, locals := 0 } : Room) E [.int a, .int b] v (quo a b) v := by
  refine Ci.of (cc := cX4_quotient) (maxL := 2) (ret := (some .int)) (own := RX4) (by decide) rfl rfl (Nat.le_of_ble_eq_true rfl) ?_
  intro p e s m below meth c F hr hlk ls hl hH
  obtain ⟨hx, hb, hml, hown, hts⟩ := id F.1
  have hl : lv_has ls 2 [(0, .int a), (1, .int b)] := hl
  refine lv_iload_n hx hb dX4_quotient_0 rfl (lv_at hl 1 rfl) ?_
  refine lv_if_ne (tgt := 8) hx hb dX4_quotient_1 (by decide) (fun c1 => ?_) (fun c1 => ?_)
  · skip
    refine lv_iload_n hx hb dX4_quotient_8 rfl (lv_at hl 0 rfl) ?_
    refine lv_iload_n hx hb dX4_quotient_9 rfl (lv_at hl 1 rfl) ?_
    refine lv_idiv hx hb dX4_quotient_10 (by assumption) ?_
    exact g_iret F hr hlk hH (by first | rfl | (simp only [quo, c1, if_true, if_false, ↓reduceIte]; done) | (simp only [quo, c1, if_true, if_false, ↓reduceIte]; rfl)) (by first | rfl | (simp only [quo, c1, if_true, if_false, ↓reduceIte]; done) | (simp only [quo, c1, if_true, if_false, ↓reduceIte]; rfl)) dX4_quotient_11
  · skip
    refine lv_iconst (v := 0) hx hb dX4_quotient_4 (by decide) ?_
    refine lv_goto (tgt := 11) hx hb dX4_quotient_5 (by decide) ?_
    exact g_iret F hr hlk hH (by first | rfl | (simp only [quo, c1, if_true, if_false, ↓reduceIte]; done) | (simp only [quo, c1, if_true, if_false, ↓reduceIte]; rfl)) (by first | rfl | (simp only [quo, c1, if_true, if_false, ↓reduceIte]; done) | (simp only [quo, c1, if_true, if_false, ↓reduceIte]; rfl)) dX4_quotient_11

set_option maxHeartbeats 4000000 in
set_option maxRecDepth 100000 in
theorem c_X0_water (l : Launch) (E : Ev) (hE : EO E) (v : Mem) (i : Nat) (j : Nat) (hi : i < 3) (hj : j < eNb E i) : Ci l yX0_water wsX0_water ({ frames := 0, cells := 0, slots := 0, locals := 0 } : Room) E [.ref (eAd E (bo i j))] v (psum (v (ba i j)) (eLn E j)) v := by
  refine Ci.of (cc := cX0_water) (maxL := 3) (ret := (some .int)) (own := RX0) (by decide) rfl rfl (Nat.le_of_ble_eq_true rfl) ?_
  intro p e s m below meth c F hr hlk ls hl hH
  obtain ⟨hx, hb, hml, hown, hts⟩ := id F.1
  have hl : lv_has ls 3 [(0, .ref (eAd E (bo i j)))] := hl
  have inX0 : ∀ w ∈ wsX00, w ∈ wsX0_water := fun w h => List.mem_cons_of_mem _ (List.mem_append_right _ h)
  have hnb := hE.2.2.2.2.1 i (by omega)
  have hln := hE.2.2.2.2.2.1 j (by omega)
  refine lv_iconst (v := 0) hx hb dX0_water_0 (by decide) ?_
  refine lv_istore_n (lv' := [(1, .int 0), (0, .ref (eAd E (bo i j)))]) hx hb dX0_water_1 rfl hl (by decide) rfl (fun ls hl => ?_)
  refine lv_iconst (v := 0) hx hb dX0_water_2 (by decide) ?_
  refine lv_istore_n (lv' := [(2, .int 0), (1, .int 0), (0, .ref (eAd E (bo i j)))]) hx hb dX0_water_3 rfl hl (by decide) rfl (fun ls hl => ?_)
  have loop4 : ∀ (n t : Nat), t + n = eLn E j → ∀ (H : Heap) (locs : List Loc) (ls : Array Slot), HS E s.heap v H locs → lv_has ls 3 [(0, .ref (eAd E (bo i j))), (1, .int (psum (v (ba i j)) t)), (2, .int (nI t))] → W p l e ({ frames := 0, cells := 0, slots := 0, locals := 0 } : Room) s m ([.ref (eAd E (bo i j))] : List Value).toArray below meth c H locs 0 0 (Zi below E ([.ref (eAd E (bo i j))] : List Value).toArray s (psum (v (ba i j)) (eLn E j)) v) (F0 m 4 ls []) := by
    intro n
    induction n with
    | zero =>
      intro t ht H locs ls hH hl
      obtain rfl : eLn E j = t := by omega
      refine lv_iload_n hx hb dX0_water_4 rfl (lv_at hl 2 rfl) ?_
      refine lv_aload_n hx hb dX0_water_5 rfl (lv_at hl 0 rfl) ?_
      refine g_get (x := .ref (eAd E (ba i j))) F hH inX0 (hE.2.2.2.1 i j hi (by omega)).1 (cq_bo E _ (by omega)) rfl 0 (by decide) (hts (.fieldLink RX0 19 "DryingKiln$Board" "moisture" "[I") (by decide +kernel)) (fun _ h => h) rfl dX0_water_6 ?_
      refine g_alen (n := eLn E j) F hH (hE.2.2.2.1 i j hi (by omega)).2 (cq_ba E _ (by omega)) dX0_water_9 ?_
      refine lv_icmp_ge (tgt := 28) hx hb dX0_water_10 (by decide) (fun c1 => ?_) (fun c1 => ?_)
      · skip
        refine lv_iload_n hx hb dX0_water_28 rfl (lv_at hl 1 rfl) ?_
        exact g_iret F hr hlk hH (by first | rfl | (simp only [c1, if_true, if_false, ↓reduceIte]; done) | (simp only [c1, if_true, if_false, ↓reduceIte]; rfl)) (by first | rfl | (simp only [c1, if_true, if_false, ↓reduceIte]; done) | (simp only [c1, if_true, if_false, ↓reduceIte]; rfl)) dX0_water_29
      · skip
        exact absurd (nI_le (Nat.le_refl _) (by omega)) c1
    | succ n ih =>
      intro t ht H locs ls hH hl
      have htN : t < eLn E j := by omega
      refine lv_iload_n hx hb dX0_water_4 rfl (lv_at hl 2 rfl) ?_
      refine lv_aload_n hx hb dX0_water_5 rfl (lv_at hl 0 rfl) ?_
      refine g_get (x := .ref (eAd E (ba i j))) F hH inX0 (hE.2.2.2.1 i j hi (by omega)).1 (cq_bo E _ (by omega)) rfl 0 (by decide) (hts (.fieldLink RX0 19 "DryingKiln$Board" "moisture" "[I") (by decide +kernel)) (fun _ h => h) rfl dX0_water_6 ?_
      refine g_alen (n := eLn E j) F hH (hE.2.2.2.1 i j hi (by omega)).2 (cq_ba E _ (by omega)) dX0_water_9 ?_
      refine lv_icmp_ge (tgt := 28) hx hb dX0_water_10 (by decide) (fun c2 => ?_) (fun c2 => ?_)
      · skip
        exact absurd c2 (nI_ge htN (by omega))
      · skip
        refine lv_iload_n hx hb dX0_water_13 rfl (lv_at hl 1 rfl) ?_
        refine lv_aload_n hx hb dX0_water_14 rfl (lv_at hl 0 rfl) ?_
        refine g_get (x := .ref (eAd E (ba i j))) F hH inX0 (hE.2.2.2.1 i j hi (by omega)).1 (cq_bo E _ (by omega)) rfl 0 (by decide) (hts (.fieldLink RX0 19 "DryingKiln$Board" "moisture" "[I") (by decide +kernel)) (fun _ h => h) rfl dX0_water_15 ?_
        refine lv_iload_n hx hb dX0_water_18 rfl (lv_at hl 2 rfl) ?_
        refine g_iald (n := eLn E j) (x := v (ba i j) t) F hH (hE.2.2.2.1 i j hi (by omega)).2 (cq_ba E _ (by omega)) t rfl (by omega) (by omega) rfl dX0_water_19 ?_
        refine lv_iadd hx hb dX0_water_20 ?_
        refine lv_istore_n (lv' := [(1, .int ((psum (v (ba i j)) t) + (v (ba i j) t))), (0, .ref (eAd E (bo i j))), (2, .int (nI t))]) hx hb dX0_water_21 rfl hl (by decide) rfl (fun ls hl => ?_)
        refine lv_iinc (v := nI (t + 1)) (lv' := [(2, .int (nI (t + 1))), (1, .int ((psum (v (ba i j)) t) + (v (ba i j) t))), (0, .ref (eAd E (bo i j)))]) hx hb dX0_water_22 hl (k := 2) rfl (nI_1 _) (by decide) rfl (fun ls hl => ?_)
        refine lv_goto (tgt := 4) hx hb dX0_water_25 (by decide) ?_
        exact ih (t + 1) (by omega) _ _ ls (by first | exact hH | (simp only [c2, if_true, if_false, ↓reduceIte]; exact hH)) (by first | exact lv_sub hl [2, 1, 0] rfl | (have h := lv_sub hl [2, 1, 0] rfl; simp only [c2, if_true, if_false, ↓reduceIte]; exact h))
  exact loop4 (eLn E j) 0 (Nat.zero_add _) _ _ ls hH (lv_sub hl [2, 1, 0] rfl)

set_option maxHeartbeats 4000000 in
set_option maxRecDepth 100000 in
theorem c_X0_average (l : Launch) (E : Ev) (hE : EO E) (v : Mem) (i : Nat) (j : Nat) (hi : i < 3) (hj : j < eNb E i) : Ci l yX0_average wsX0_average ({ frames := 1, cells := 0, slots := 0, locals := 22 } : Room) E [.ref (eAd E (bo i j))] v (lavg E v i j) v := by
  refine Ci.of (cc := cX0_average) (maxL := 1) (ret := (some .int)) (own := RX0) (by decide) rfl rfl (Nat.le_of_ble_eq_true rfl) ?_
  intro p e s m below meth c F hr hlk ls hl hH
  obtain ⟨hx, hb, hml, hown, hts⟩ := id F.1
  have hl : lv_has ls 1 [(0, .ref (eAd E (bo i j)))] := hl
  have inX0 : ∀ w ∈ wsX00, w ∈ wsX0_average := fun w h => List.mem_cons_of_mem _ (List.mem_append_right _ h)
  have hnb := hE.2.2.2.2.1 i (by omega)
  have hln := hE.2.2.2.2.2.1 j (by omega)
  refine lv_aload_n hx hb dX0_average_0 rfl (lv_at hl 0 rfl) ?_
  refine g_vi (As := []) F hH (c_X0_water l E hE v i j (by first | assumption | omega | decide) (by first | assumption | omega | decide)) (cwV 0 hts gX0_average_X0_water rfl rfl rfl (by decide +kernel) ⟨Nat.le_of_ble_eq_true rfl, Nat.le_of_ble_eq_true rfl⟩) (hE.2.2.2.1 i j hi (by omega)).1 (cq_bo E _ (by omega)) rfl rfl hl.1 [] rfl (Nat.le_of_ble_eq_true rfl) dX0_average_1 ⟨Nat.zero_le _, Nat.zero_le _⟩ (fun H locs hH => ?_)
  refine lv_aload_n hx hb dX0_average_4 rfl (lv_at hl 0 rfl) ?_
  refine g_get (x := .ref (eAd E (ba i j))) F hH inX0 (hE.2.2.2.1 i j hi (by omega)).1 (cq_bo E _ (by omega)) rfl 0 (by decide) (hts (.fieldLink RX0 19 "DryingKiln$Board" "moisture" "[I") (by decide +kernel)) (fun _ h => h) rfl dX0_average_5 ?_
  refine g_alen (n := eLn E j) F hH (hE.2.2.2.1 i j hi (by omega)).2 (cq_ba E _ (by omega)) dX0_average_8 ?_
  refine g_sni (As := [.int (psum (v (ba i j)) (eLn E j)), .int (nI (eLn E j))]) F hH (c_X4_quotient l E hE v (psum (v (ba i j)) (eLn E j)) (nI (eLn E j))) ⟨va_cnB 2 hts gX0_average_X4_quotient_n33 rfl rfl rfl F.2.2.2.1.1 (hts (.initialized RX4) (by decide +kernel)) (by decide +kernel) ⟨Nat.le_of_ble_eq_true rfl, Nat.le_of_ble_eq_true rfl⟩, (hts (.static yX4_quotient) (by decide +kernel)), trivial⟩ rfl hl.1 [] rfl (Nat.le_of_ble_eq_true rfl) dX0_average_9 ⟨Nat.zero_le _, Nat.zero_le _⟩ (fun H locs hH => ?_)
  exact g_iret F hr hlk hH (by first | rfl | (simp only [if_true, if_false, ↓reduceIte]; done) | (simp only [if_true, if_false, ↓reduceIte]; rfl)) (by first | rfl | (simp only [if_true, if_false, ↓reduceIte]; done) | (simp only [if_true, if_false, ↓reduceIte]; rfl)) dX0_average_12

set_option maxHeartbeats 4000000 in
set_option maxRecDepth 100000 in
theorem c_X0_gradient (l : Launch) (E : Ev) (hE : EO E) (v : Mem) (i : Nat) (j : Nat) (hi : i < 3) (hj : j < eNb E i) : Ci l yX0_gradient wsX0_gradient ({ frames := 1, cells := 0, slots := 0, locals := 24 } : Room) E [.ref (eAd E (bo i j))] v (pstr (v (ba i j)) (eLn E j)) v := by
  refine Ci.of (cc := cX0_gradient) (maxL := 3) (ret := (some .int)) (own := RX0) (by decide) rfl rfl (Nat.le_of_ble_eq_true rfl) ?_
  intro p e s m below meth c F hr hlk ls hl hH
  obtain ⟨hx, hb, hml, hown, hts⟩ := id F.1
  have hl : lv_has ls 3 [(0, .ref (eAd E (bo i j)))] := hl
  have inX0 : ∀ w ∈ wsX00, w ∈ wsX0_gradient := fun w h => List.mem_cons_of_mem _ (List.mem_append_right _ h)
  have hnb := hE.2.2.2.2.1 i (by omega)
  have hln := hE.2.2.2.2.2.1 j (by omega)
  refine lv_iconst (v := 0) hx hb dX0_gradient_0 (by decide) ?_
  refine lv_istore_n (lv' := [(1, .int 0), (0, .ref (eAd E (bo i j)))]) hx hb dX0_gradient_1 rfl hl (by decide) rfl (fun ls hl => ?_)
  refine lv_iconst (v := 0) hx hb dX0_gradient_2 (by decide) ?_
  refine lv_istore_n (lv' := [(2, .int 0), (1, .int 0), (0, .ref (eAd E (bo i j)))]) hx hb dX0_gradient_3 rfl hl (by decide) rfl (fun ls hl => ?_)
  have loop4 : ∀ (n t : Nat), t + n = eLn E j → ∀ (H : Heap) (locs : List Loc) (ls : Array Slot), HS E s.heap v H locs → lv_has ls 3 [(0, .ref (eAd E (bo i j))), (1, .int (pmx (v (ba i j)) t)), (2, .int (nI t))] → W p l e ({ frames := 1, cells := 0, slots := 0, locals := 24 } : Room) s m ([.ref (eAd E (bo i j))] : List Value).toArray below meth c H locs 0 0 (Zi below E ([.ref (eAd E (bo i j))] : List Value).toArray s (pstr (v (ba i j)) (eLn E j)) v) (F0 m 4 ls []) := by
    intro n
    induction n with
    | zero =>
      intro t ht H locs ls hH hl
      obtain rfl : eLn E j = t := by omega
      refine lv_iload_n hx hb dX0_gradient_4 rfl (lv_at hl 2 rfl) ?_
      refine lv_aload_n hx hb dX0_gradient_5 rfl (lv_at hl 0 rfl) ?_
      refine g_get (x := .ref (eAd E (ba i j))) F hH inX0 (hE.2.2.2.1 i j hi (by omega)).1 (cq_bo E _ (by omega)) rfl 0 (by decide) (hts (.fieldLink RX0 19 "DryingKiln$Board" "moisture" "[I") (by decide +kernel)) (fun _ h => h) rfl dX0_gradient_6 ?_
      refine g_alen (n := eLn E j) F hH (hE.2.2.2.1 i j hi (by omega)).2 (cq_ba E _ (by omega)) dX0_gradient_9 ?_
      refine lv_icmp_ge (tgt := 30) hx hb dX0_gradient_10 (by decide) (fun c1 => ?_) (fun c1 => ?_)
      · skip
        refine lv_iload_n hx hb dX0_gradient_30 rfl (lv_at hl 1 rfl) ?_
        refine lv_aload_n hx hb dX0_gradient_31 rfl (lv_at hl 0 rfl) ?_
        refine g_get (x := .ref (eAd E (ba i j))) F hH inX0 (hE.2.2.2.1 i j hi (by omega)).1 (cq_bo E _ (by omega)) rfl 0 (by decide) (hts (.fieldLink RX0 19 "DryingKiln$Board" "moisture" "[I") (by decide +kernel)) (fun _ h => h) rfl dX0_gradient_32 ?_
        refine lv_iconst (v := 0) hx hb dX0_gradient_35 (by decide) ?_
        refine g_iald (n := eLn E j) (x := v (ba i j) 0) F hH (hE.2.2.2.1 i j hi (by omega)).2 (cq_ba E _ (by omega)) 0 rfl (by omega) (by omega) rfl dX0_gradient_36 ?_
        refine lv_aload_n hx hb dX0_gradient_37 rfl (lv_at hl 0 rfl) ?_
        refine g_get (x := .ref (eAd E (ba i j))) F hH inX0 (hE.2.2.2.1 i j hi (by omega)).1 (cq_bo E _ (by omega)) rfl 0 (by decide) (hts (.fieldLink RX0 19 "DryingKiln$Board" "moisture" "[I") (by decide +kernel)) (fun _ h => h) rfl dX0_gradient_38 ?_
        refine lv_aload_n hx hb dX0_gradient_41 rfl (lv_at hl 0 rfl) ?_
        refine g_get (x := .ref (eAd E (ba i j))) F hH inX0 (hE.2.2.2.1 i j hi (by omega)).1 (cq_bo E _ (by omega)) rfl 0 (by decide) (hts (.fieldLink RX0 19 "DryingKiln$Board" "moisture" "[I") (by decide +kernel)) (fun _ h => h) rfl dX0_gradient_42 ?_
        refine g_alen (n := eLn E j) F hH (hE.2.2.2.1 i j hi (by omega)).2 (cq_ba E _ (by omega)) dX0_gradient_45 ?_
        refine lv_iconst (v := 1) hx hb dX0_gradient_46 (by decide) ?_
        refine lv_isub hx hb dX0_gradient_47 ?_
        rw [show (nI (eLn E j)) - 1 = nI (eLn E j - 1) from nI_m1 (by omega)]
        refine g_iald (n := eLn E j) (x := v (ba i j) (eLn E j - 1)) F hH (hE.2.2.2.1 i j hi (by omega)).2 (cq_ba E _ (by omega)) (eLn E j - 1) rfl (by omega) (by omega) rfl dX0_gradient_48 ?_
        refine va_mmin hx hb (by rw [hml]; exact hl.1.symm) hown (hts (.methodLink RX0 42 Lib.Math.min.name) (by decide +kernel)) (hts (.static Lib.Math.min.name) (by decide +kernel)) (hts (.initialized "java/lang/Math") (by decide +kernel)) (hts (.code Lib.Math.min.name Lib.Math.min.code 2 (some .int)) (by decide +kernel)) (Nat.le_of_ble_eq_true rfl) (Nat.le_of_ble_eq_true rfl) (Nat.zero_le _) (Nat.zero_le _) dX0_gradient_49 ?_
        rw [← imn_eq (v (ba i j) 0) (v (ba i j) (eLn E j - 1))]
        refine lv_isub hx hb dX0_gradient_52 ?_
        exact g_iret F hr hlk hH (by first | rfl | (simp only [c1, if_true, if_false, ↓reduceIte]; done) | (simp only [c1, if_true, if_false, ↓reduceIte]; rfl)) (by first | rfl | (simp only [c1, if_true, if_false, ↓reduceIte]; done) | (simp only [c1, if_true, if_false, ↓reduceIte]; rfl)) dX0_gradient_53
      · skip
        exact absurd (nI_le (Nat.le_refl _) (by omega)) c1
    | succ n ih =>
      intro t ht H locs ls hH hl
      have htN : t < eLn E j := by omega
      refine lv_iload_n hx hb dX0_gradient_4 rfl (lv_at hl 2 rfl) ?_
      refine lv_aload_n hx hb dX0_gradient_5 rfl (lv_at hl 0 rfl) ?_
      refine g_get (x := .ref (eAd E (ba i j))) F hH inX0 (hE.2.2.2.1 i j hi (by omega)).1 (cq_bo E _ (by omega)) rfl 0 (by decide) (hts (.fieldLink RX0 19 "DryingKiln$Board" "moisture" "[I") (by decide +kernel)) (fun _ h => h) rfl dX0_gradient_6 ?_
      refine g_alen (n := eLn E j) F hH (hE.2.2.2.1 i j hi (by omega)).2 (cq_ba E _ (by omega)) dX0_gradient_9 ?_
      refine lv_icmp_ge (tgt := 30) hx hb dX0_gradient_10 (by decide) (fun c2 => ?_) (fun c2 => ?_)
      · skip
        exact absurd c2 (nI_ge htN (by omega))
      · skip
        refine lv_iload_n hx hb dX0_gradient_13 rfl (lv_at hl 1 rfl) ?_
        refine lv_aload_n hx hb dX0_gradient_14 rfl (lv_at hl 0 rfl) ?_
        refine g_get (x := .ref (eAd E (ba i j))) F hH inX0 (hE.2.2.2.1 i j hi (by omega)).1 (cq_bo E _ (by omega)) rfl 0 (by decide) (hts (.fieldLink RX0 19 "DryingKiln$Board" "moisture" "[I") (by decide +kernel)) (fun _ h => h) rfl dX0_gradient_15 ?_
        refine lv_iload_n hx hb dX0_gradient_18 rfl (lv_at hl 2 rfl) ?_
        refine g_iald (n := eLn E j) (x := v (ba i j) t) F hH (hE.2.2.2.1 i j hi (by omega)).2 (cq_ba E _ (by omega)) t rfl (by omega) (by omega) rfl dX0_gradient_19 ?_
        refine va_mmax hx hb (by rw [hml]; exact hl.1.symm) hown (hts (.methodLink RX0 37 Lib.Math.max.name) (by decide +kernel)) (hts (.static Lib.Math.max.name) (by decide +kernel)) (hts (.initialized "java/lang/Math") (by decide +kernel)) (hts (.code Lib.Math.max.name Lib.Math.max.code 2 (some .int)) (by decide +kernel)) (Nat.le_of_ble_eq_true rfl) (Nat.le_of_ble_eq_true rfl) (Nat.zero_le _) (Nat.zero_le _) dX0_gradient_20 ?_
        rw [← imx_eq (pmx (v (ba i j)) t) (v (ba i j) t)]
        refine lv_istore_n (lv' := [(1, .int (imx (pmx (v (ba i j)) t) (v (ba i j) t))), (0, .ref (eAd E (bo i j))), (2, .int (nI t))]) hx hb dX0_gradient_23 rfl hl (by decide) rfl (fun ls hl => ?_)
        refine lv_iinc (v := nI (t + 1)) (lv' := [(2, .int (nI (t + 1))), (1, .int (imx (pmx (v (ba i j)) t) (v (ba i j) t))), (0, .ref (eAd E (bo i j)))]) hx hb dX0_gradient_24 hl (k := 2) rfl (nI_1 _) (by decide) rfl (fun ls hl => ?_)
        refine lv_goto (tgt := 4) hx hb dX0_gradient_27 (by decide) ?_
        exact ih (t + 1) (by omega) _ _ ls (by first | exact hH | (simp only [c2, if_true, if_false, ↓reduceIte]; exact hH)) (by first | exact lv_sub hl [2, 1, 0] rfl | (have h := lv_sub hl [2, 1, 0] rfl; simp only [c2, if_true, if_false, ↓reduceIte]; exact h))
  exact loop4 (eLn E j) 0 (Nat.zero_add _) _ _ ls hH (lv_sub hl [2, 1, 0] rfl)

set_option maxHeartbeats 4000000 in
set_option maxRecDepth 100000 in
theorem c_X0_applyFlows (l : Launch) (E : Ev) (hE : EO E) (v : Mem) (i : Nat) (j : Nat) (a : Int32) (b : Int32) (d : Int32) (hi : i < 3) (hj : j < eNb E i) : Cv l yX0_applyFlows wsX0_applyFlows ({ frames := 0, cells := 0, slots := 0, locals := 0 } : Room) E [.ref (eAd E (bo i j)), .int a, .int b, .int d] v (va_up v (ba i j) (flw (v (ba i j)) (eLn E j) d a b)) := by
  refine Cv.of (cc := cX0_applyFlows) (maxL := 7) (ret := none) (own := RX0) (by decide) rfl rfl (Nat.le_of_ble_eq_true rfl) ?_
  intro p e s m below meth c F hr hlk ls hl hH
  obtain ⟨hx, hb, hml, hown, hts⟩ := id F.1
  have hl : lv_has ls 7 [(0, .ref (eAd E (bo i j))), (1, .int a), (2, .int b), (3, .int d)] := hl
  have inX0 : ∀ w ∈ wsX00, w ∈ wsX0_applyFlows := fun w h => List.mem_cons_of_mem _ (List.mem_append_right _ h)
  have hnb := hE.2.2.2.2.1 i (by omega)
  have hln := hE.2.2.2.2.2.1 j (by omega)
  refine lv_iload_n hx hb dX0_applyFlows_0 rfl (lv_at hl 1 rfl) ?_
  refine lv_ineg hx hb dX0_applyFlows_1 ?_
  refine lv_istore (lv' := [(4, .int (-a)), (0, .ref (eAd E (bo i j))), (1, .int a), (2, .int b), (3, .int d)]) hx hb dX0_applyFlows_2 hl (by decide) rfl (fun ls hl => ?_)
  refine lv_iconst (v := 0) hx hb dX0_applyFlows_4 (by decide) ?_
  refine lv_istore (lv' := [(5, .int 0), (4, .int (-a)), (0, .ref (eAd E (bo i j))), (1, .int a), (2, .int b), (3, .int d)]) hx hb dX0_applyFlows_5 hl (by decide) rfl (fun ls hl => ?_)
  have loop7 : ∀ (n t : Nat), t + n = eLn E j → ∀ (H : Heap) (locs : List Loc) (ls : Array Slot), HS E s.heap (va_up v (ba i j) (fpre (v (ba i j)) (eLn E j) d a b t)) H locs → lv_has ls 7 [(0, .ref (eAd E (bo i j))), (1, .int a), (2, .int b), (3, .int d), (4, .int (ent (v (ba i j)) (eLn E j) d a b t)), (5, .int (nI t))] → W p l e ({ frames := 0, cells := 0, slots := 0, locals := 0 } : Room) s m ([.ref (eAd E (bo i j)), .int a, .int b, .int d] : List Value).toArray below meth c H locs 0 0 (Zv below E ([.ref (eAd E (bo i j)), .int a, .int b, .int d] : List Value).toArray s (va_up v (ba i j) (flw (v (ba i j)) (eLn E j) d a b))) (F0 m 7 ls []) := by
    intro n
    induction n with
    | zero =>
      intro t ht H locs ls hH hl
      obtain rfl : eLn E j = t := by omega
      refine lv_iload hx hb dX0_applyFlows_7 (lv_at hl 5 rfl) ?_
      refine lv_aload_n hx hb dX0_applyFlows_9 rfl (lv_at hl 0 rfl) ?_
      refine g_get (x := .ref (eAd E (ba i j))) F hH inX0 (hE.2.2.2.1 i j hi (by omega)).1 (cq_bo E _ (by omega)) rfl 0 (by decide) (hts (.fieldLink RX0 19 "DryingKiln$Board" "moisture" "[I") (by decide +kernel)) (fun _ h => h) rfl dX0_applyFlows_10 ?_
      refine g_alen (n := eLn E j) F hH (hE.2.2.2.1 i j hi (by omega)).2 (cq_ba E _ (by omega)) dX0_applyFlows_13 ?_
      refine lv_icmp_ge (tgt := 83) hx hb dX0_applyFlows_14 (by decide) (fun c1 => ?_) (fun c1 => ?_)
      · skip
        exact g_vret F hr hlk hH rfl dX0_applyFlows_83
      · skip
        exact absurd (nI_le (Nat.le_refl _) (by omega)) c1
    | succ n ih =>
      intro t ht H locs ls hH hl
      have htN : t < eLn E j := by omega
      refine lv_iload hx hb dX0_applyFlows_7 (lv_at hl 5 rfl) ?_
      refine lv_aload_n hx hb dX0_applyFlows_9 rfl (lv_at hl 0 rfl) ?_
      refine g_get (x := .ref (eAd E (ba i j))) F hH inX0 (hE.2.2.2.1 i j hi (by omega)).1 (cq_bo E _ (by omega)) rfl 0 (by decide) (hts (.fieldLink RX0 19 "DryingKiln$Board" "moisture" "[I") (by decide +kernel)) (fun _ h => h) rfl dX0_applyFlows_10 ?_
      refine g_alen (n := eLn E j) F hH (hE.2.2.2.1 i j hi (by omega)).2 (cq_ba E _ (by omega)) dX0_applyFlows_13 ?_
      refine lv_icmp_ge (tgt := 83) hx hb dX0_applyFlows_14 (by decide) (fun c2 => ?_) (fun c2 => ?_)
      · skip
        exact absurd c2 (nI_ge htN (by omega))
      · skip
        refine lv_iload hx hb dX0_applyFlows_17 (lv_at hl 5 rfl) ?_
        refine lv_iconst (v := 1) hx hb dX0_applyFlows_19 (by decide) ?_
        refine lv_iadd hx hb dX0_applyFlows_20 ?_
        rw [nI_1 t]
        refine lv_aload_n hx hb dX0_applyFlows_21 rfl (lv_at hl 0 rfl) ?_
        refine g_get (x := .ref (eAd E (ba i j))) F hH inX0 (hE.2.2.2.1 i j hi (by omega)).1 (cq_bo E _ (by omega)) rfl 0 (by decide) (hts (.fieldLink RX0 19 "DryingKiln$Board" "moisture" "[I") (by decide +kernel)) (fun _ h => h) rfl dX0_applyFlows_22 ?_
        refine g_alen (n := eLn E j) F hH (hE.2.2.2.1 i j hi (by omega)).2 (cq_ba E _ (by omega)) dX0_applyFlows_25 ?_
        refine lv_icmp_ge (tgt := 55) hx hb dX0_applyFlows_26 (by decide) (fun c3 => ?_) (fun c3 => ?_)
        · skip
          have c3 : ¬ (t + 1 < eLn E j) := Nat.not_lt.mpr ((nI_leI (by omega) (by omega)).mp c3)
          refine lv_iload_n hx hb dX0_applyFlows_55 rfl (lv_at hl 2 rfl) ?_
          refine lv_istore (lv' := [(6, .int b), (0, .ref (eAd E (bo i j))), (1, .int a), (2, .int b), (3, .int d), (4, .int (ent (v (ba i j)) (eLn E j) d a b t)), (5, .int (nI t))]) hx hb dX0_applyFlows_56 hl (by decide) rfl (fun ls hl => ?_)
          refine lv_aload_n hx hb dX0_applyFlows_58 rfl (lv_at hl 1 rfl) ?_
          refine g_get (x := .ref (eAd E (ba i j))) F hH inX0 (hE.2.2.2.1 i j hi (by omega)).1 (cq_bo E _ (by omega)) rfl 0 (by decide) (hts (.fieldLink RX0 19 "DryingKiln$Board" "moisture" "[I") (by decide +kernel)) (fun _ h => h) rfl dX0_applyFlows_59 ?_
          refine lv_iload hx hb dX0_applyFlows_62 (lv_at hl 6 rfl) ?_
          refine lv_dup2_11 hx hb dX0_applyFlows_64 rfl rfl ?_
          refine g_iald (n := eLn E j) (x := v (ba i j) t) F hH (hE.2.2.2.1 i j hi (by omega)).2 (cq_ba E _ (by omega)) t rfl (by omega) (by omega) (fp_get v _ _ _ _ _ (Nat.le_refl t)) dX0_applyFlows_65 ?_
          refine lv_iload hx hb dX0_applyFlows_66 (lv_at hl 5 rfl) ?_
          refine lv_iload hx hb dX0_applyFlows_68 (lv_at hl 0 rfl) ?_
          refine lv_isub hx hb dX0_applyFlows_70 ?_
          refine lv_iadd hx hb dX0_applyFlows_71 ?_
          refine g_iast (n := eLn E j) F hH (hE.2.2.2.1 i j hi (by omega)).2 (fun _ => cq_ba E _ (by omega)) t rfl (by omega) (by omega) dX0_applyFlows_72 (fun H locs hH => ?_)
          rw [show st (va_up v (ba i j) (fpre (v (ba i j)) (eLn E j) d a b t)) (ba i j) t ((v (ba i j) t) + ((ent (v (ba i j)) (eLn E j) d a b t) - b)) = va_up v (ba i j) (fpre (v (ba i j)) (eLn E j) d a b (t + 1)) from fp_set v _ _ _ _ _ _ (by simp only [lea, c2, c3, if_true, if_false, ↓reduceIte])] at hH
          refine lv_iload hx hb dX0_applyFlows_73 (lv_at hl 0 rfl) ?_
          refine lv_istore (lv' := [(4, .int b), (6, .int b), (0, .ref (eAd E (bo i j))), (1, .int a), (2, .int b), (3, .int d), (5, .int (nI t))]) hx hb dX0_applyFlows_75 hl (by decide) rfl (fun ls hl => ?_)
          refine lv_iinc (v := nI (t + 1)) (lv' := [(5, .int (nI (t + 1))), (4, .int b), (6, .int b), (0, .ref (eAd E (bo i j))), (1, .int a), (2, .int b), (3, .int d)]) hx hb dX0_applyFlows_77 hl (k := 6) rfl (nI_1 _) (by decide) rfl (fun ls hl => ?_)
          refine lv_goto (tgt := 7) hx hb dX0_applyFlows_80 (by decide) ?_
          exact ih (t + 1) (by omega) _ _ ls (by first | exact hH | (simp only [ent, lea, c2, c3, if_true, if_false, ↓reduceIte]; exact hH)) (by first | exact lv_sub hl [3, 4, 5, 6, 1, 0] rfl | (have h := lv_sub hl [3, 4, 5, 6, 1, 0] rfl; simp only [ent, lea, c2, c3, if_true, if_false, ↓reduceIte]; exact h))
        · skip
          have c3 : t + 1 < eLn E j := Nat.not_le.mp (fun h => c3 ((nI_leI (by omega) (by omega)).mpr h))
          refine lv_aload_n hx hb dX0_applyFlows_29 rfl (lv_at hl 0 rfl) ?_
          refine g_get (x := .ref (eAd E (ba i j))) F hH inX0 (hE.2.2.2.1 i j hi (by omega)).1 (cq_bo E _ (by omega)) rfl 0 (by decide) (hts (.fieldLink RX0 19 "DryingKiln$Board" "moisture" "[I") (by decide +kernel)) (fun _ h => h) rfl dX0_applyFlows_30 ?_
          refine lv_iload hx hb dX0_applyFlows_33 (lv_at hl 5 rfl) ?_
          refine g_iald (n := eLn E j) (x := v (ba i j) t) F hH (hE.2.2.2.1 i j hi (by omega)).2 (cq_ba E _ (by omega)) t rfl (by omega) (by omega) (fp_get v _ _ _ _ _ (Nat.le_refl t)) dX0_applyFlows_35 ?_
          refine lv_aload_n hx hb dX0_applyFlows_36 rfl (lv_at hl 0 rfl) ?_
          refine g_get (x := .ref (eAd E (ba i j))) F hH inX0 (hE.2.2.2.1 i j hi (by omega)).1 (cq_bo E _ (by omega)) rfl 0 (by decide) (hts (.fieldLink RX0 19 "DryingKiln$Board" "moisture" "[I") (by decide +kernel)) (fun _ h => h) rfl dX0_applyFlows_37 ?_
          refine lv_iload hx hb dX0_applyFlows_40 (lv_at hl 5 rfl) ?_
          refine lv_iconst (v := 1) hx hb dX0_applyFlows_42 (by decide) ?_
          refine lv_iadd hx hb dX0_applyFlows_43 ?_
          rw [nI_1 t]
          refine g_iald (n := eLn E j) (x := v (ba i j) (t + 1)) F hH (hE.2.2.2.1 i j hi (by omega)).2 (cq_ba E _ (by omega)) (t + 1) rfl (by omega) (by omega) (fp_get v _ _ _ _ _ (Nat.le_succ t)) dX0_applyFlows_44 ?_
          refine lv_isub hx hb dX0_applyFlows_45 ?_
          refine lv_iload_n hx hb dX0_applyFlows_46 rfl (lv_at hl 3 rfl) ?_
          refine lv_imul hx hb dX0_applyFlows_47 ?_
          refine lv_sipush (v := 1000) hx hb dX0_applyFlows_48 (by decide) ?_
          refine lv_idiv hx hb dX0_applyFlows_51 (by decide) ?_
          refine lv_goto (tgt := 56) hx hb dX0_applyFlows_52 (by decide) ?_
          refine lv_istore (lv' := [(6, .int ((((v (ba i j) t) - (v (ba i j) (t + 1))) * d) / 1000)), (0, .ref (eAd E (bo i j))), (1, .int a), (2, .int b), (3, .int d), (4, .int (ent (v (ba i j)) (eLn E j) d a b t)), (5, .int (nI t))]) hx hb dX0_applyFlows_56 hl (by decide) rfl (fun ls hl => ?_)
          refine lv_aload_n hx hb dX0_applyFlows_58 rfl (lv_at hl 1 rfl) ?_
          refine g_get (x := .ref (eAd E (ba i j))) F hH inX0 (hE.2.2.2.1 i j hi (by omega)).1 (cq_bo E _ (by omega)) rfl 0 (by decide) (hts (.fieldLink RX0 19 "DryingKiln$Board" "moisture" "[I") (by decide +kernel)) (fun _ h => h) rfl dX0_applyFlows_59 ?_
          refine lv_iload hx hb dX0_applyFlows_62 (lv_at hl 6 rfl) ?_
          refine lv_dup2_11 hx hb dX0_applyFlows_64 rfl rfl ?_
          refine g_iald (n := eLn E j) (x := v (ba i j) t) F hH (hE.2.2.2.1 i j hi (by omega)).2 (cq_ba E _ (by omega)) t rfl (by omega) (by omega) (fp_get v _ _ _ _ _ (Nat.le_refl t)) dX0_applyFlows_65 ?_
          refine lv_iload hx hb dX0_applyFlows_66 (lv_at hl 5 rfl) ?_
          refine lv_iload hx hb dX0_applyFlows_68 (lv_at hl 0 rfl) ?_
          refine lv_isub hx hb dX0_applyFlows_70 ?_
          refine lv_iadd hx hb dX0_applyFlows_71 ?_
          refine g_iast (n := eLn E j) F hH (hE.2.2.2.1 i j hi (by omega)).2 (fun _ => cq_ba E _ (by omega)) t rfl (by omega) (by omega) dX0_applyFlows_72 (fun H locs hH => ?_)
          rw [show st (va_up v (ba i j) (fpre (v (ba i j)) (eLn E j) d a b t)) (ba i j) t ((v (ba i j) t) + ((ent (v (ba i j)) (eLn E j) d a b t) - ((((v (ba i j) t) - (v (ba i j) (t + 1))) * d) / 1000))) = va_up v (ba i j) (fpre (v (ba i j)) (eLn E j) d a b (t + 1)) from fp_set v _ _ _ _ _ _ (by simp only [lea, c2, c3, if_true, if_false, ↓reduceIte])] at hH
          refine lv_iload hx hb dX0_applyFlows_73 (lv_at hl 0 rfl) ?_
          refine lv_istore (lv' := [(4, .int ((((v (ba i j) t) - (v (ba i j) (t + 1))) * d) / 1000)), (6, .int ((((v (ba i j) t) - (v (ba i j) (t + 1))) * d) / 1000)), (0, .ref (eAd E (bo i j))), (1, .int a), (2, .int b), (3, .int d), (5, .int (nI t))]) hx hb dX0_applyFlows_75 hl (by decide) rfl (fun ls hl => ?_)
          refine lv_iinc (v := nI (t + 1)) (lv' := [(5, .int (nI (t + 1))), (4, .int ((((v (ba i j) t) - (v (ba i j) (t + 1))) * d) / 1000)), (6, .int ((((v (ba i j) t) - (v (ba i j) (t + 1))) * d) / 1000)), (0, .ref (eAd E (bo i j))), (1, .int a), (2, .int b), (3, .int d)]) hx hb dX0_applyFlows_77 hl (k := 6) rfl (nI_1 _) (by decide) rfl (fun ls hl => ?_)
          refine lv_goto (tgt := 7) hx hb dX0_applyFlows_80 (by decide) ?_
          exact ih (t + 1) (by omega) _ _ ls (by first | exact hH | (simp only [ent, lea, c2, c3, if_true, if_false, ↓reduceIte]; exact hH)) (by first | exact lv_sub hl [3, 4, 5, 6, 1, 0] rfl | (have h := lv_sub hl [3, 4, 5, 6, 1, 0] rfl; simp only [ent, lea, c2, c3, if_true, if_false, ↓reduceIte]; exact h))
  exact loop7 (eLn E j) 0 (Nat.zero_add _) _ _ ls (by rw [fpre_zero, up_self]; exact hH) (lv_sub hl [2, 3, 4, 5, 1, 0] rfl)

set_option maxHeartbeats 4000000 in
set_option maxRecDepth 100000 in
theorem c_X0_passDryingHour (l : Launch) (E : Ev) (hE : EO E) (v : Mem) (i : Nat) (j : Nat) (a : Int32) (hi : i < 3) (hj : j < eNb E i) : Ci l yX0_passDryingHour wsX0_passDryingHour ({ frames := 1, cells := 0, slots := 0, locals := 26 } : Room) E [.ref (eAd E (bo i j)), .int a, .ref (eAd E 1)] v (btop E i j a v + bbot E i j a v) (bdry E i j a v) := by
  refine Ci.of (cc := cX0_passDryingHour) (maxL := 5) (ret := (some .int)) (own := RX0) (by decide) rfl rfl (Nat.le_of_ble_eq_true rfl) ?_
  intro p e s m below meth c F hr hlk ls hl hH
  obtain ⟨hx, hb, hml, hown, hts⟩ := id F.1
  have hl : lv_has ls 5 [(0, .ref (eAd E (bo i j))), (1, .int a), (2, .ref (eAd E 1))] := hl
  have inX0 : ∀ w ∈ wsX00, w ∈ wsX0_passDryingHour := fun w h => List.mem_cons_of_mem _ (List.mem_append_left _ (List.mem_append_right _ h))
  have inX3 : ∀ w ∈ wsX30, w ∈ wsX0_passDryingHour := fun w h => List.mem_cons_of_mem _ (List.mem_append_right _ h)
  have hnb := hE.2.2.2.2.1 i (by omega)
  have hln := hE.2.2.2.2.2.1 j (by omega)
  refine lv_aload_n hx hb dX0_passDryingHour_0 rfl (lv_at hl 0 rfl) ?_
  refine lv_iload_n hx hb dX0_passDryingHour_1 rfl (lv_at hl 1 rfl) ?_
  refine g_put (ty := .int) (x := a) F hH inX0 tyX0 tyX0_ok nmX0 (hE.2.2.2.1 i j hi (by omega)).1 (cq_bo E _ (by omega)) rfl 2 (by decide) (hts (.fieldLink RX0 16 "DryingKiln$Board" "air" "I") (by decide +kernel)) (fun _ h => h) rfl (by decide +kernel) rfl rfl (Nat.le_of_ble_eq_true rfl) (cq_bo E _ (by omega)) dX0_passDryingHour_2 (fun H locs hH => ?_)
  refine lv_aload_n hx hb dX0_passDryingHour_5 rfl (lv_at hl 0 rfl) ?_
  refine g_get (x := .ref (eAd E (ba i j))) F hH inX0 (hE.2.2.2.1 i j hi (by omega)).1 (cq_bo E _ (by omega)) rfl 0 (by decide) (hts (.fieldLink RX0 19 "DryingKiln$Board" "moisture" "[I") (by decide +kernel)) (fun _ h => h) rfl dX0_passDryingHour_6 ?_
  refine lv_iconst (v := 0) hx hb dX0_passDryingHour_9 (by decide) ?_
  refine g_iald (n := eLn E j) (x := v (ba i j) 0) F hH (hE.2.2.2.1 i j hi (by omega)).2 (cq_ba E _ (by omega)) 0 rfl (by omega) (by omega) (by rw [st_ne _ _ _ (ne_ab (by omega) (by omega))]) dX0_passDryingHour_10 ?_
  refine lv_iload_n hx hb dX0_passDryingHour_11 rfl (lv_at hl 1 rfl) ?_
  refine lv_isub hx hb dX0_passDryingHour_12 ?_
  refine lv_aload_n hx hb dX0_passDryingHour_13 rfl (lv_at hl 2 rfl) ?_
  refine g_get (x := .int ((st v (bo i j) 2 a) 1 1)) F hH inX3 (hE.1 1 (by decide)) (cq_set E _) rfl 1 (by decide) (hts (.fieldLink RX0 45 "DryingKiln$Settings" "surface" "I") (by decide +kernel)) (fun _ h => h) rfl dX0_passDryingHour_14 ?_
  rw [show (st v (bo i j) 2 a) 1 1 = v 1 1 by rw [st_ne _ _ _ (Ne.symm (ne_bl (by decide)))]]
  refine lv_imul hx hb dX0_passDryingHour_17 ?_
  refine lv_sipush (v := 1000) hx hb dX0_passDryingHour_18 (by decide) ?_
  refine lv_idiv hx hb dX0_passDryingHour_21 (by decide) ?_
  refine lv_istore_n (lv' := [(3, .int ((((v (ba i j) 0) - a) * (v 1 1)) / 1000)), (0, .ref (eAd E (bo i j))), (1, .int a), (2, .ref (eAd E 1))]) hx hb dX0_passDryingHour_22 rfl hl (by decide) rfl (fun ls hl => ?_)
  refine lv_aload_n hx hb dX0_passDryingHour_23 rfl (lv_at hl 1 rfl) ?_
  refine g_get (x := .ref (eAd E (ba i j))) F hH inX0 (hE.2.2.2.1 i j hi (by omega)).1 (cq_bo E _ (by omega)) rfl 0 (by decide) (hts (.fieldLink RX0 19 "DryingKiln$Board" "moisture" "[I") (by decide +kernel)) (fun _ h => h) rfl dX0_passDryingHour_24 ?_
  refine lv_aload_n hx hb dX0_passDryingHour_27 rfl (lv_at hl 1 rfl) ?_
  refine g_get (x := .ref (eAd E (ba i j))) F hH inX0 (hE.2.2.2.1 i j hi (by omega)).1 (cq_bo E _ (by omega)) rfl 0 (by decide) (hts (.fieldLink RX0 19 "DryingKiln$Board" "moisture" "[I") (by decide +kernel)) (fun _ h => h) rfl dX0_passDryingHour_28 ?_
  refine g_alen (n := eLn E j) F hH (hE.2.2.2.1 i j hi (by omega)).2 (cq_ba E _ (by omega)) dX0_passDryingHour_31 ?_
  refine lv_iconst (v := 1) hx hb dX0_passDryingHour_32 (by decide) ?_
  refine lv_isub hx hb dX0_passDryingHour_33 ?_
  rw [show (nI (eLn E j)) - 1 = nI (eLn E j - 1) from nI_m1 (by omega)]
  refine g_iald (n := eLn E j) (x := v (ba i j) (eLn E j - 1)) F hH (hE.2.2.2.1 i j hi (by omega)).2 (cq_ba E _ (by omega)) (eLn E j - 1) rfl (by omega) (by omega) (by rw [st_ne _ _ _ (ne_ab (by omega) (by omega))]) dX0_passDryingHour_34 ?_
  refine lv_iload_n hx hb dX0_passDryingHour_35 rfl (lv_at hl 2 rfl) ?_
  refine lv_isub hx hb dX0_passDryingHour_36 ?_
  refine lv_aload_n hx hb dX0_passDryingHour_37 rfl (lv_at hl 3 rfl) ?_
  refine g_get (x := .int ((st v (bo i j) 2 a) 1 1)) F hH inX3 (hE.1 1 (by decide)) (cq_set E _) rfl 1 (by decide) (hts (.fieldLink RX0 45 "DryingKiln$Settings" "surface" "I") (by decide +kernel)) (fun _ h => h) rfl dX0_passDryingHour_38 ?_
  rw [show (st v (bo i j) 2 a) 1 1 = v 1 1 by rw [st_ne _ _ _ (Ne.symm (ne_bl (by decide)))]]
  refine lv_imul hx hb dX0_passDryingHour_41 ?_
  refine lv_sipush (v := 1000) hx hb dX0_passDryingHour_42 (by decide) ?_
  refine lv_idiv hx hb dX0_passDryingHour_45 (by decide) ?_
  refine lv_istore (lv' := [(4, .int ((((v (ba i j) (eLn E j - 1)) - a) * (v 1 1)) / 1000)), (3, .int ((((v (ba i j) 0) - a) * (v 1 1)) / 1000)), (0, .ref (eAd E (bo i j))), (1, .int a), (2, .ref (eAd E 1))]) hx hb dX0_passDryingHour_46 hl (by decide) rfl (fun ls hl => ?_)
  refine lv_aload_n hx hb dX0_passDryingHour_48 rfl (lv_at hl 2 rfl) ?_
  refine lv_iload_n hx hb dX0_passDryingHour_49 rfl (lv_at hl 1 rfl) ?_
  refine lv_iload hx hb dX0_passDryingHour_50 (lv_at hl 0 rfl) ?_
  refine lv_aload_n hx hb dX0_passDryingHour_52 rfl (lv_at hl 4 rfl) ?_
  refine g_get (x := .int ((st v (bo i j) 2 a) 1 0)) F hH inX3 (hE.1 1 (by decide)) (cq_set E _) rfl 0 (by decide) (hts (.fieldLink RX0 50 "DryingKiln$Settings" "diffusion" "I") (by decide +kernel)) (fun _ h => h) rfl dX0_passDryingHour_53 ?_
  rw [show (st v (bo i j) 2 a) 1 0 = v 1 0 by rw [st_ne _ _ _ (Ne.symm (ne_bl (by decide)))]]
  refine g_vv (As := [.int ((((v (ba i j) 0) - a) * (v 1 1)) / 1000), .int ((((v (ba i j) (eLn E j - 1)) - a) * (v 1 1)) / 1000), .int (v 1 0)]) F hH (c_X0_applyFlows l E hE (st v (bo i j) 2 a) i j ((((v (ba i j) 0) - a) * (v 1 1)) / 1000) ((((v (ba i j) (eLn E j - 1)) - a) * (v 1 1)) / 1000) (v 1 0) (by first | assumption | omega | decide) (by first | assumption | omega | decide)) (cwV 3 hts gX0_passDryingHour_X0_applyFlows rfl rfl rfl (by decide +kernel) ⟨Nat.le_of_ble_eq_true rfl, Nat.le_of_ble_eq_true rfl⟩) (hE.2.2.2.1 i j hi (by omega)).1 (cq_bo E _ (by omega)) rfl rfl hl.1 [] rfl (Nat.le_of_ble_eq_true rfl) dX0_passDryingHour_56 ⟨Nat.zero_le _, Nat.zero_le _⟩ (fun H locs hH => ?_)
  rw [show va_up (st v (bo i j) 2 a) (ba i j) (flw ((st v (bo i j) 2 a) (ba i j)) (eLn E j) (v 1 0) ((((v (ba i j) 0) - a) * (v 1 1)) / 1000) ((((v (ba i j) (eLn E j - 1)) - a) * (v 1 1)) / 1000)) = bdry E i j a v from (by unfold bdry btop bbot; rw [st_ne _ _ _ (ne_ab (by omega) (by omega))])] at hH
  refine lv_iload_n hx hb dX0_passDryingHour_59 rfl (lv_at hl 1 rfl) ?_
  refine lv_iload hx hb dX0_passDryingHour_60 (lv_at hl 0 rfl) ?_
  refine lv_iadd hx hb dX0_passDryingHour_62 ?_
  exact g_iret F hr hlk hH rfl rfl dX0_passDryingHour_63

set_option maxHeartbeats 4000000 in
set_option maxRecDepth 100000 in
theorem c_X0_passRestHour (l : Launch) (E : Ev) (hE : EO E) (v : Mem) (i : Nat) (j : Nat) (d : Int32) (hi : i < 3) (hj : j < eNb E i) : Cv l yX0_passRestHour wsX0_passRestHour ({ frames := 1, cells := 0, slots := 0, locals := 26 } : Room) E [.ref (eAd E (bo i j)), .int d] v (brst E i j d v) := by
  refine Cv.of (cc := cX0_passRestHour) (maxL := 2) (ret := none) (own := RX0) (by decide) rfl rfl (Nat.le_of_ble_eq_true rfl) ?_
  intro p e s m below meth c F hr hlk ls hl hH
  obtain ⟨hx, hb, hml, hown, hts⟩ := id F.1
  have hl : lv_has ls 2 [(0, .ref (eAd E (bo i j))), (1, .int d)] := hl
  have inX0 : ∀ w ∈ wsX00, w ∈ wsX0_passRestHour := fun w h => List.mem_cons_of_mem _ (List.mem_append_right _ h)
  have hnb := hE.2.2.2.2.1 i (by omega)
  have hln := hE.2.2.2.2.2.1 j (by omega)
  refine lv_aload_n hx hb dX0_passRestHour_0 rfl (lv_at hl 0 rfl) ?_
  refine lv_iconst (v := 0) hx hb dX0_passRestHour_1 (by decide) ?_
  refine lv_iconst (v := 0) hx hb dX0_passRestHour_2 (by decide) ?_
  refine lv_iload_n hx hb dX0_passRestHour_3 rfl (lv_at hl 1 rfl) ?_
  refine g_vv (As := [.int 0, .int 0, .int d]) F hH (c_X0_applyFlows l E hE v i j 0 0 d (by first | assumption | omega | decide) (by first | assumption | omega | decide)) (cwV 3 hts gX0_passRestHour_X0_applyFlows rfl rfl rfl (by decide +kernel) ⟨Nat.le_of_ble_eq_true rfl, Nat.le_of_ble_eq_true rfl⟩) (hE.2.2.2.1 i j hi (by omega)).1 (cq_bo E _ (by omega)) rfl rfl hl.1 [] rfl (Nat.le_of_ble_eq_true rfl) dX0_passRestHour_4 ⟨Nat.zero_le _, Nat.zero_le _⟩ (fun H locs hH => ?_)
  exact g_vret F hr hlk hH rfl dX0_passRestHour_7

set_option maxHeartbeats 4000000 in
set_option maxRecDepth 100000 in
theorem c_X0_copyMoistureFrom (l : Launch) (E : Ev) (hE : EO E) (v : Mem) (i : Nat) (o : Nat) (j : Nat) (hi : i < 3) (ho : o < 3) (hj : j < eNb E i) (hjo : j < eNb E o) : Cv l yX0_copyMoistureFrom wsX0_copyMoistureFrom ({ frames := 1, cells := 0, slots := 0, locals := 60 } : Room) E [.ref (eAd E (bo i j)), .ref (eAd E (bo o j))] v (bcpy E i o j v) := by
  refine Cv.of (cc := cX0_copyMoistureFrom) (maxL := 3) (ret := none) (own := RX0) (by decide) rfl rfl (Nat.le_of_ble_eq_true rfl) ?_
  intro p e s m below meth c F hr hlk ls hl hH
  obtain ⟨hx, hb, hml, hown, hts⟩ := id F.1
  have hl : lv_has ls 3 [(0, .ref (eAd E (bo i j))), (1, .ref (eAd E (bo o j)))] := hl
  have inX0 : ∀ w ∈ wsX00, w ∈ wsX0_copyMoistureFrom := fun w h => List.mem_cons_of_mem _ (List.mem_append_right _ h)
  have hnb := hE.2.2.2.2.1 i (by omega)
  have hln := hE.2.2.2.2.2.1 j (by omega)
  have hnbo := hE.2.2.2.2.1 o (by omega)
  refine lv_aload_n hx hb dX0_copyMoistureFrom_0 rfl (lv_at hl 0 rfl) ?_
  refine g_get (x := .ref (eAd E (ba i j))) F hH inX0 (hE.2.2.2.1 i j hi (by omega)).1 (cq_bo E _ (by omega)) rfl 0 (by decide) (hts (.fieldLink RX0 19 "DryingKiln$Board" "moisture" "[I") (by decide +kernel)) (fun _ h => h) rfl dX0_copyMoistureFrom_1 ?_
  refine g_alen (n := eLn E j) F hH (hE.2.2.2.1 i j hi (by omega)).2 (cq_ba E _ (by omega)) dX0_copyMoistureFrom_4 ?_
  refine lv_aload_n hx hb dX0_copyMoistureFrom_5 rfl (lv_at hl 1 rfl) ?_
  refine g_get (x := .ref (eAd E (ba o j))) F hH inX0 (hE.2.2.2.1 o j ho (by omega)).1 (cq_bo E _ (by omega)) rfl 0 (by decide) (hts (.fieldLink RX0 19 "DryingKiln$Board" "moisture" "[I") (by decide +kernel)) (fun _ h => h) rfl dX0_copyMoistureFrom_6 ?_
  refine g_alen (n := eLn E j) F hH (hE.2.2.2.1 o j ho (by omega)).2 (cq_ba E _ (by omega)) dX0_copyMoistureFrom_9 ?_
  refine va_mmin hx hb (by rw [hml]; exact hl.1.symm) hown (hts (.methodLink RX0 42 Lib.Math.min.name) (by decide +kernel)) (hts (.static Lib.Math.min.name) (by decide +kernel)) (hts (.initialized "java/lang/Math") (by decide +kernel)) (hts (.code Lib.Math.min.name Lib.Math.min.code 2 (some .int)) (by decide +kernel)) (Nat.le_of_ble_eq_true rfl) (Nat.le_of_ble_eq_true rfl) (Nat.zero_le _) (Nat.zero_le _) dX0_copyMoistureFrom_10 ?_
  rw [← imn_eq (nI (eLn E j)) (nI (eLn E j))]
  rw [show imn (nI (eLn E j)) (nI (eLn E j)) = nI (eLn E j) from imn_self _]
  refine lv_istore_n (lv' := [(2, .int (nI (eLn E j))), (0, .ref (eAd E (bo i j))), (1, .ref (eAd E (bo o j)))]) hx hb dX0_copyMoistureFrom_13 rfl hl (by decide) rfl (fun ls hl => ?_)
  refine lv_aload_n hx hb dX0_copyMoistureFrom_14 rfl (lv_at hl 2 rfl) ?_
  refine g_get (x := .ref (eAd E (ba o j))) F hH inX0 (hE.2.2.2.1 o j ho (by omega)).1 (cq_bo E _ (by omega)) rfl 0 (by decide) (hts (.fieldLink RX0 19 "DryingKiln$Board" "moisture" "[I") (by decide +kernel)) (fun _ h => h) rfl dX0_copyMoistureFrom_15 ?_
  refine lv_iconst (v := 0) hx hb dX0_copyMoistureFrom_18 (by decide) ?_
  refine lv_aload_n hx hb dX0_copyMoistureFrom_19 rfl (lv_at hl 1 rfl) ?_
  refine g_get (x := .ref (eAd E (ba i j))) F hH inX0 (hE.2.2.2.1 i j hi (by omega)).1 (cq_bo E _ (by omega)) rfl 0 (by decide) (hts (.fieldLink RX0 19 "DryingKiln$Board" "moisture" "[I") (by decide +kernel)) (fun _ h => h) rfl dX0_copyMoistureFrom_20 ?_
  refine lv_iconst (v := 0) hx hb dX0_copyMoistureFrom_23 (by decide) ?_
  refine lv_iload_n hx hb dX0_copyMoistureFrom_24 rfl (lv_at hl 0 rfl) ?_
  refine g_copy (n := eLn E j) (n2 := eLn E j) F hH (by rw [hml]; exact hl.1.symm) (hE.2.2.2.1 i j hi (by omega)).2 (fun _ => cq_ba E _ (by omega)) (hE.2.2.2.1 o j ho (by omega)).2 (cq_ba E _ (by omega)) (hts (.methodLink RX0 57 arraycopyName) (by decide +kernel)) (hts (.native arraycopyName) (by decide +kernel)) (hts (.static arraycopyName) (by decide +kernel)) (hts (.initialized "java/lang/System") (by decide +kernel)) (eLn E j) rfl (by omega) (by omega) (by omega) (Nat.le_of_ble_eq_true rfl) (Nat.le_of_ble_eq_true rfl) dX0_copyMoistureFrom_25 (fun H locs hH => ?_)
  exact g_vret F hr hlk hH rfl dX0_copyMoistureFrom_28

set_option maxHeartbeats 4000000 in
set_option maxRecDepth 100000 in
theorem c_Jx4a65c_size_8abf5 (l : Launch) (E : Ev) (hE : EO E) (v : Mem) (i : Nat) (hi : i < 3) : Ci l yJx4a65c_size_8abf5 wsJx4a65c_size_8abf5 ({ frames := 0, cells := 0, slots := 0, locals := 0 } : Room) E [.ref (eAd E (8 + i))] v (nI (eNb E i)) v := by
  refine Ci.of (cc := cJx4a65c_size_8abf5) (maxL := 1) (ret := (some .int)) (own := RJx4a65c) (by decide) rfl rfl (Nat.le_of_ble_eq_true rfl) ?_
  intro p e s m below meth c F hr hlk ls hl hH
  obtain ⟨hx, hb, hml, hown, hts⟩ := id F.1
  have hl : lv_has ls 1 [(0, .ref (eAd E (8 + i)))] := hl
  have inJx4a65c : ∀ w ∈ wsJx4a65c0, w ∈ wsJx4a65c_size_8abf5 := fun w h => List.mem_cons_of_mem _ (List.mem_append_right _ h)
  refine lv_aload_n hx hb dJx4a65c_size_8abf5_0 rfl (lv_at hl 0 rfl) ?_
  refine g_get (x := .int (nI (eNb E i))) F hH inJx4a65c (hE.1 _ (by have := hi; omega)) (cq_li E _ hi) rfl 2 (by decide) (hts (.fieldLink RJx4a65c 48 "java/util/ArrayList" "size" "I") (by decide +kernel)) (fun _ h => h) rfl dJx4a65c_size_8abf5_1 ?_
  exact g_iret F hr hlk hH (by first | rfl | (simp only [if_true, if_false, ↓reduceIte]; done) | (simp only [if_true, if_false, ↓reduceIte]; rfl)) (by first | rfl | (simp only [if_true, if_false, ↓reduceIte]; done) | (simp only [if_true, if_false, ↓reduceIte]; rfl)) dJx4a65c_size_8abf5_4

set_option maxHeartbeats 4000000 in
set_option maxRecDepth 100000 in
theorem c_J3_checkIndex_8e157 (l : Launch) (E : Ev) (hE : EO E) (v : Mem) (a : Int32) (b : Int32) (h0 : ¬ a < 0) (h1 : a < b) : Ci l yJ3_checkIndex_8e157 wsJ3_checkIndex_8e157 ({ frames := 0, cells := 0, slots := 0, locals := 0 } : Room) E [.int a, .int b, .null] v a v := by
  refine Ci.of (cc := cJ3_checkIndex_8e157) (maxL := 3) (ret := (some .int)) (own := RJ3) (by decide) rfl rfl (Nat.le_of_ble_eq_true rfl) ?_
  intro p e s m below meth c F hr hlk ls hl hH
  obtain ⟨hx, hb, hml, hown, hts⟩ := id F.1
  have hl : lv_has ls 3 [(0, .int a), (1, .int b), (2, .null)] := hl
  refine lv_iload_n hx hb dJ3_checkIndex_8e157_0 rfl (lv_at hl 0 rfl) ?_
  refine lv_if_lt (tgt := 9) hx hb dJ3_checkIndex_8e157_1 (by decide) (fun c1 => ?_) (fun c1 => ?_)
  · skip
    exact absurd c1 h0
  · skip
    refine lv_iload_n hx hb dJ3_checkIndex_8e157_4 rfl (lv_at hl 0 rfl) ?_
    refine lv_iload_n hx hb dJ3_checkIndex_8e157_5 rfl (lv_at hl 1 rfl) ?_
    refine lv_icmp_lt (tgt := 16) hx hb dJ3_checkIndex_8e157_6 (by decide) (fun c2 => ?_) (fun c2 => ?_)
    · skip
      refine lv_iload_n hx hb dJ3_checkIndex_8e157_16 rfl (lv_at hl 0 rfl) ?_
      exact g_iret F hr hlk hH (by first | rfl | (simp only [c1, c2, if_true, if_false, ↓reduceIte]; done) | (simp only [c1, c2, if_true, if_false, ↓reduceIte]; rfl)) (by first | rfl | (simp only [c1, c2, if_true, if_false, ↓reduceIte]; done) | (simp only [c1, c2, if_true, if_false, ↓reduceIte]; rfl)) dJ3_checkIndex_8e157_17
    · skip
      exact absurd h1 c2

set_option maxHeartbeats 4000000 in
set_option maxRecDepth 100000 in
theorem c_J15_checkIndex_7cf53 (l : Launch) (E : Ev) (hE : EO E) (v : Mem) (a : Int32) (b : Int32) (h0 : ¬ a < 0) (h1 : a < b) : Ci l yJ15_checkIndex_7cf53 wsJ15_checkIndex_7cf53 ({ frames := 1, cells := 0, slots := 0, locals := 22 } : Room) E [.int a, .int b] v a v := by
  refine Ci.of (cc := cJ15_checkIndex_7cf53) (maxL := 2) (ret := (some .int)) (own := RJ15) (by decide) rfl rfl (Nat.le_of_ble_eq_true rfl) ?_
  intro p e s m below meth c F hr hlk ls hl hH
  obtain ⟨hx, hb, hml, hown, hts⟩ := id F.1
  have hl : lv_has ls 2 [(0, .int a), (1, .int b)] := hl
  refine lv_iload_n hx hb dJ15_checkIndex_7cf53_0 rfl (lv_at hl 0 rfl) ?_
  refine lv_iload_n hx hb dJ15_checkIndex_7cf53_1 rfl (lv_at hl 1 rfl) ?_
  refine lv_null hx hb dJ15_checkIndex_7cf53_2 ?_
  refine g_si (As := [.int a, .int b, .null]) F hH (c_J3_checkIndex_8e157 l E hE v a b (by first | assumption | omega | decide) (by first | assumption | omega | decide)) (va_cwS 3 hts gJ15_checkIndex_7cf53_J3_checkIndex_8e157 rfl rfl rfl (by decide +kernel) ⟨Nat.le_of_ble_eq_true rfl, Nat.le_of_ble_eq_true rfl⟩) rfl hl.1 [] rfl (Nat.le_of_ble_eq_true rfl) dJ15_checkIndex_7cf53_3 ⟨Nat.zero_le _, Nat.zero_le _⟩ (fun H locs hH => ?_)
  exact g_iret F hr hlk hH (by first | rfl | (simp only [if_true, if_false, ↓reduceIte]; done) | (simp only [if_true, if_false, ↓reduceIte]; rfl)) (by first | rfl | (simp only [if_true, if_false, ↓reduceIte]; done) | (simp only [if_true, if_false, ↓reduceIte]; rfl)) dJ15_checkIndex_7cf53_6

set_option maxHeartbeats 4000000 in
set_option maxRecDepth 100000 in
theorem c_Jx4a65c_elementData_915e3 (l : Launch) (E : Ev) (hE : EO E) (v : Mem) (i : Nat) (j : Nat) (hi : i < 3) (hj : j < eNb E i) : Cr l yJx4a65c_elementData_915e3 wsJx4a65c_elementData_915e3 ({ frames := 0, cells := 0, slots := 0, locals := 0 } : Room) E [.ref (eAd E (8 + i)), .int (nI j)] v (eAd E (bo i j)) v := by
  refine Cr.of (cc := cJx4a65c_elementData_915e3) (maxL := 2) (ret := (some (.object "java/lang/Object"))) (own := RJx4a65c) (by decide) rfl rfl (Nat.le_of_ble_eq_true rfl) ?_
  intro p e s m below meth c F hr hlk ls hl hH
  obtain ⟨hx, hb, hml, hown, hts⟩ := id F.1
  have hl : lv_has ls 2 [(0, .ref (eAd E (8 + i))), (1, .int (nI j))] := hl
  have inJx4a65c : ∀ w ∈ wsJx4a65c0, w ∈ wsJx4a65c_elementData_915e3 := fun w h => List.mem_cons_of_mem _ (List.mem_append_right _ h)
  have hnb := hE.2.2.2.2.1 i (by omega)
  refine lv_aload_n hx hb dJx4a65c_elementData_915e3_0 rfl (lv_at hl 0 rfl) ?_
  refine g_get (x := .ref (eEl E i)) F hH inJx4a65c (hE.1 _ (by have := hi; omega)) (cq_li E _ hi) rfl 1 (by decide) (hts (.fieldLink RJx4a65c 9 "java/util/ArrayList" "elementData" "[Ljava/lang/Object;") (by decide +kernel)) (fun _ h => h) rfl dJx4a65c_elementData_915e3_1 ?_
  rw [show (eEl E i) = eAd E (12 + i) from if_neg (by omega)]
  refine lv_iload_n hx hb dJx4a65c_elementData_915e3_4 rfl (lv_at hl 1 rfl) ?_
  refine g_aald (n := 10) (a := eAd E (bo i j)) F hH (hE.2.2.1 i hi (by omega)) (cq_el E _ hi) j rfl (by omega) (by omega) (if_pos hj) dJx4a65c_elementData_915e3_5 ?_
  exact g_aret F hr (Or.inl ⟨_, rfl⟩) hlk hH (by first | rfl | (simp only [if_true, if_false, ↓reduceIte]; done) | (simp only [if_true, if_false, ↓reduceIte]; rfl)) (by first | rfl | (simp only [if_true, if_false, ↓reduceIte]; done) | (simp only [if_true, if_false, ↓reduceIte]; rfl)) dJx4a65c_elementData_915e3_6

set_option maxHeartbeats 4000000 in
set_option maxRecDepth 100000 in
theorem c_Jx4a65c_get_915e3 (l : Launch) (E : Ev) (hE : EO E) (v : Mem) (i : Nat) (j : Nat) (hi : i < 3) (hj : j < eNb E i) : Cr l yJx4a65c_get_915e3 wsJx4a65c_get_915e3 ({ frames := 2, cells := 0, slots := 0, locals := 43 } : Room) E [.ref (eAd E (8 + i)), .int (nI j)] v (eAd E (bo i j)) v := by
  refine Cr.of (cc := cJx4a65c_get_915e3) (maxL := 2) (ret := (some (.object "java/lang/Object"))) (own := RJx4a65c) (by decide) rfl rfl (Nat.le_of_ble_eq_true rfl) ?_
  intro p e s m below meth c F hr hlk ls hl hH
  obtain ⟨hx, hb, hml, hown, hts⟩ := id F.1
  have hl : lv_has ls 2 [(0, .ref (eAd E (8 + i))), (1, .int (nI j))] := hl
  have inJx4a65c : ∀ w ∈ wsJx4a65c0, w ∈ wsJx4a65c_get_915e3 := fun w h => List.mem_cons_of_mem _ (List.mem_append_right _ h)
  have hnb := hE.2.2.2.2.1 i (by omega)
  refine lv_iload_n hx hb dJx4a65c_get_915e3_0 rfl (lv_at hl 1 rfl) ?_
  refine lv_aload_n hx hb dJx4a65c_get_915e3_1 rfl (lv_at hl 0 rfl) ?_
  refine g_get (x := .int (nI (eNb E i))) F hH inJx4a65c (hE.1 _ (by have := hi; omega)) (cq_li E _ hi) rfl 2 (by decide) (hts (.fieldLink RJx4a65c 48 "java/util/ArrayList" "size" "I") (by decide +kernel)) (fun _ h => h) rfl dJx4a65c_get_915e3_2 ?_
  refine g_si (As := [.int (nI j), .int (nI (eNb E i))]) F hH (c_J15_checkIndex_7cf53 l E hE v (nI j) (nI (eNb E i)) (nI_pos (by omega)) (nI_lt hj (by omega))) (va_cwS 2 hts gJx4a65c_get_915e3_J15_checkIndex_7cf53 rfl rfl rfl (by decide +kernel) ⟨Nat.le_of_ble_eq_true rfl, Nat.le_of_ble_eq_true rfl⟩) rfl hl.1 [] rfl (Nat.le_of_ble_eq_true rfl) dJx4a65c_get_915e3_5 ⟨Nat.zero_le _, Nat.zero_le _⟩ (fun H locs hH => ?_)
  refine lv_pop hx hb dJx4a65c_get_915e3_8 rfl ?_
  refine lv_aload_n hx hb dJx4a65c_get_915e3_9 rfl (lv_at hl 0 rfl) ?_
  refine lv_iload_n hx hb dJx4a65c_get_915e3_10 rfl (lv_at hl 1 rfl) ?_
  refine g_vr (As := [.int (nI j)]) F hH (c_Jx4a65c_elementData_915e3 l E hE v i j (by first | assumption | omega | decide) (by first | assumption | omega | decide)) (cwV 1 hts gJx4a65c_get_915e3_Jx4a65c_elementData_915e3 rfl rfl rfl (by decide +kernel) ⟨Nat.le_of_ble_eq_true rfl, Nat.le_of_ble_eq_true rfl⟩) (hE.1 _ (by have := hi; omega)) (cq_li E _ hi) rfl rfl hl.1 [] rfl (Nat.le_of_ble_eq_true rfl) dJx4a65c_get_915e3_11 ⟨Nat.zero_le _, Nat.zero_le _⟩ (fun H locs hH => ?_)
  exact g_aret F hr (Or.inl ⟨_, rfl⟩) hlk hH (by first | rfl | (simp only [if_true, if_false, ↓reduceIte]; done) | (simp only [if_true, if_false, ↓reduceIte]; rfl)) (by first | rfl | (simp only [if_true, if_false, ↓reduceIte]; done) | (simp only [if_true, if_false, ↓reduceIte]; rfl)) dJx4a65c_get_915e3_14

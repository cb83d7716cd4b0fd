set_option maxHeartbeats 4000000 in
set_option maxRecDepth 100000 in
theorem c_X1_size (l : Launch) (E : Ev) (hE : EO E) (v : Mem) (i : Nat) (hi : i < 3) : Ci l yX1_size wsX1_size ({ frames := 1, cells := 0, slots := 0, locals := 20 } : Room) E [.ref (eAd E (5 + i))] v (nI (eNb E i)) v := by
  refine Ci.of (cc := cX1_size) (maxL := 1) (ret := (some .int)) (own := RX1) (by decide) rfl rfl (Nat.le_of_ble_eq_true rfl) ?_
  intro p e s m below meth c F hr hlk ls hl hH
  obtain ⟨hx, hb, hml, hown, hts⟩ := id F.1
  have hl : lv_has ls 1 [(0, .ref (eAd E (5 + i)))] := hl
  have inJx4a65c : ∀ w ∈ wsJx4a65c0, w ∈ wsX1_size := fun w h => List.mem_cons_of_mem _ (List.mem_append_right _ h)
  have inX1 : ∀ w ∈ wsX10, w ∈ wsX1_size := fun w h => List.mem_cons_of_mem _ (List.mem_append_left _ (List.mem_append_right _ h))
  refine lv_aload_n hx hb dX1_size_0 rfl (lv_at hl 0 rfl) ?_
  refine g_get (x := .ref (eAd E (8 + i))) F hH inX1 (hE.1 _ (by have := hi; omega)) (cq_ld E _ hi) rfl 2 (by decide) (hts (.fieldLink RX1 22 "DryingKiln$Load" "boards" "Ljava/util/ArrayList;") (by decide +kernel)) (fun _ h => h) rfl dX1_size_1 ?_
  refine g_vi (As := []) F hH (c_Jx4a65c_size_8abf5 l E hE v i (by first | assumption | omega | decide)) (cwV 0 hts gX1_size_Jx4a65c_size_8abf5 rfl rfl rfl (by decide +kernel) ⟨Nat.le_of_ble_eq_true rfl, Nat.le_of_ble_eq_true rfl⟩) (hE.1 _ (by have := hi; omega)) (cq_li E _ hi) rfl rfl hl.1 [] rfl (Nat.le_of_ble_eq_true rfl) dX1_size_4 ⟨Nat.zero_le _, Nat.zero_le _⟩ (fun H locs hH => ?_)
  exact g_iret F hr hlk hH (by first | rfl | (simp only [if_true, if_false, ↓reduceIte]; done) | (simp only [if_true, if_false, ↓reduceIte]; rfl)) (by first | rfl | (simp only [if_true, if_false, ↓reduceIte]; done) | (simp only [if_true, if_false, ↓reduceIte]; rfl)) dX1_size_7

set_option maxHeartbeats 4000000 in
set_option maxRecDepth 100000 in
theorem c_X1_has (l : Launch) (E : Ev) (hE : EO E) (v : Mem) (i : Nat) (a : Int32) (hi : i < 3) : Ci l yX1_has wsX1_has ({ frames := 1, cells := 0, slots := 0, locals := 20 } : Room) E [.ref (eAd E (5 + i)), .int a] v (lhas E i a) v := by
  refine Ci.of (cc := cX1_has) (maxL := 2) (ret := (some .boolean)) (own := RX1) (by decide) rfl rfl (Nat.le_of_ble_eq_true rfl) ?_
  intro p e s m below meth c F hr hlk ls hl hH
  obtain ⟨hx, hb, hml, hown, hts⟩ := id F.1
  have hl : lv_has ls 2 [(0, .ref (eAd E (5 + i))), (1, .int a)] := hl
  have inJx4a65c : ∀ w ∈ wsJx4a65c0, w ∈ wsX1_has := fun w h => List.mem_cons_of_mem _ (List.mem_append_right _ h)
  have inX1 : ∀ w ∈ wsX10, w ∈ wsX1_has := fun w h => List.mem_cons_of_mem _ (List.mem_append_left _ (List.mem_append_right _ h))
  refine lv_iload_n hx hb dX1_has_0 rfl (lv_at hl 1 rfl) ?_
  refine lv_if_lt (tgt := 19) hx hb dX1_has_1 (by decide) (fun c1 => ?_) (fun c1 => ?_)
  · skip
    refine lv_iconst (v := 0) hx hb dX1_has_19 (by decide) ?_
    exact g_zret F hr hlk hH (by rfl) (by first | rfl | (simp only [lhas, c1, if_true, if_false, ↓reduceIte]; done) | (simp only [lhas, c1, if_true, if_false, ↓reduceIte]; rfl)) (by first | rfl | (simp only [lhas, c1, if_true, if_false, ↓reduceIte]; done) | (simp only [lhas, c1, if_true, if_false, ↓reduceIte]; rfl)) dX1_has_20
  · skip
    refine lv_iload_n hx hb dX1_has_4 rfl (lv_at hl 1 rfl) ?_
    refine lv_aload_n hx hb dX1_has_5 rfl (lv_at hl 0 rfl) ?_
    refine g_get (x := .ref (eAd E (8 + i))) F hH inX1 (hE.1 _ (by have := hi; omega)) (cq_ld E _ hi) rfl 2 (by decide) (hts (.fieldLink RX1 22 "DryingKiln$Load" "boards" "Ljava/util/ArrayList;") (by decide +kernel)) (fun _ h => h) rfl dX1_has_6 ?_
    refine g_vi (As := []) F hH (c_Jx4a65c_size_8abf5 l E hE v i (by first | assumption | omega | decide)) (cwV 0 hts gX1_has_Jx4a65c_size_8abf5 rfl rfl rfl (by decide +kernel) ⟨Nat.le_of_ble_eq_true rfl, Nat.le_of_ble_eq_true rfl⟩) (hE.1 _ (by have := hi; omega)) (cq_li E _ hi) rfl rfl hl.1 [.int a] rfl (Nat.le_of_ble_eq_true rfl) dX1_has_9 ⟨Nat.zero_le _, Nat.zero_le _⟩ (fun H locs hH => ?_)
    refine lv_icmp_ge (tgt := 19) hx hb dX1_has_12 (by decide) (fun c2 => ?_) (fun c2 => ?_)
    · skip
      refine lv_iconst (v := 0) hx hb dX1_has_19 (by decide) ?_
      exact g_zret F hr hlk hH (by rfl) (by first | rfl | (simp only [lhas, c1, c2, if_true, if_false, ↓reduceIte]; done) | (simp only [lhas, c1, c2, if_true, if_false, ↓reduceIte]; rfl)) (by first | rfl | (simp only [lhas, c1, c2, if_true, if_false, ↓reduceIte]; done) | (simp only [lhas, c1, c2, if_true, if_false, ↓reduceIte]; rfl)) dX1_has_20
    · skip
      refine lv_iconst (v := 1) hx hb dX1_has_15 (by decide) ?_
      refine lv_goto (tgt := 20) hx hb dX1_has_16 (by decide) ?_
      exact g_zret F hr hlk hH (by rfl) (by first | rfl | (simp only [lhas, c1, c2, if_true, if_false, ↓reduceIte]; done) | (simp only [lhas, c1, c2, if_true, if_false, ↓reduceIte]; rfl)) (by first | rfl | (simp only [lhas, c1, c2, if_true, if_false, ↓reduceIte]; done) | (simp only [lhas, c1, c2, if_true, if_false, ↓reduceIte]; rfl)) dX1_has_20

set_option maxHeartbeats 4000000 in
set_option maxRecDepth 100000 in
theorem c_X1_boardAt (l : Launch) (E : Ev) (hE : EO E) (v : Mem) (i : Nat) (j : Nat) (hi : i < 3) (hj : j < eNb E i) : Cr l yX1_boardAt wsX1_boardAt ({ frames := 3, cells := 0, slots := 0, locals := 64 } : Room) E [.ref (eAd E (5 + i)), .int (nI j)] v (eAd E (bo i j)) v := by
  refine Cr.of (cc := cX1_boardAt) (maxL := 2) (ret := (some (.object "DryingKiln$Board"))) (own := RX1) (by decide) rfl rfl (Nat.le_of_ble_eq_true rfl) ?_
  intro p e s m below meth c F hr hlk ls hl hH
  obtain ⟨hx, hb, hml, hown, hts⟩ := id F.1
  have hl : lv_has ls 2 [(0, .ref (eAd E (5 + i))), (1, .int (nI j))] := hl
  have inJx4a65c : ∀ w ∈ wsJx4a65c0, w ∈ wsX1_boardAt := fun w h => List.mem_cons_of_mem _ (List.mem_append_right _ h)
  have inX1 : ∀ w ∈ wsX10, w ∈ wsX1_boardAt := fun w h => List.mem_cons_of_mem _ (List.mem_append_left _ (List.mem_append_right _ h))
  have hnb := hE.2.2.2.2.1 i (by omega)
  refine lv_aload_n hx hb dX1_boardAt_0 rfl (lv_at hl 0 rfl) ?_
  refine g_get (x := .ref (eAd E (8 + i))) F hH inX1 (hE.1 _ (by have := hi; omega)) (cq_ld E _ hi) rfl 2 (by decide) (hts (.fieldLink RX1 22 "DryingKiln$Load" "boards" "Ljava/util/ArrayList;") (by decide +kernel)) (fun _ h => h) rfl dX1_boardAt_1 ?_
  refine lv_iload_n hx hb dX1_boardAt_4 rfl (lv_at hl 1 rfl) ?_
  refine g_vr (As := [.int (nI j)]) F hH (c_Jx4a65c_get_915e3 l E hE v i j (by first | assumption | omega | decide) (by first | assumption | omega | decide)) (cwV 1 hts gX1_boardAt_Jx4a65c_get_915e3 rfl rfl rfl (by decide +kernel) ⟨Nat.le_of_ble_eq_true rfl, Nat.le_of_ble_eq_true rfl⟩) (hE.1 _ (by have := hi; omega)) (cq_li E _ hi) rfl rfl hl.1 [] rfl (Nat.le_of_ble_eq_true rfl) dX1_boardAt_5 ⟨Nat.zero_le _, Nat.zero_le _⟩ (fun H locs hH => ?_)
  refine g_cast F hH (hE.2.2.2.1 i j hi hj).1 (cq_bo E _ (by omega)) (by rfl) (hts (.classLink RX1 34 "DryingKiln$Board") (by decide +kernel)) dX1_boardAt_8 ?_
  exact g_aret F hr (Or.inl ⟨_, rfl⟩) hlk hH (by first | rfl | (simp only [if_true, if_false, ↓reduceIte]; done) | (simp only [if_true, if_false, ↓reduceIte]; rfl)) (by first | rfl | (simp only [if_true, if_false, ↓reduceIte]; done) | (simp only [if_true, if_false, ↓reduceIte]; rfl)) dX1_boardAt_11

set_option maxHeartbeats 4000000 in
set_option maxRecDepth 100000 in
theorem c_X1_water (l : Launch) (E : Ev) (hE : EO E) (v : Mem) (i : Nat) (hi : i < 3) : Ci l yX1_water wsX1_water ({ frames := 3, cells := 0, slots := 0, locals := 64 } : Room) E [.ref (eAd E (5 + i))] v (lwat E v i (eNb E i)) v := by
  refine Ci.of (cc := cX1_water) (maxL := 3) (ret := (some .int)) (own := RX1) (by decide) rfl rfl (Nat.le_of_ble_eq_true rfl) ?_
  intro p e s m below meth c F hr hlk ls hl hH
  obtain ⟨hx, hb, hml, hown, hts⟩ := id F.1
  have hl : lv_has ls 3 [(0, .ref (eAd E (5 + i)))] := hl
  have inJx4a65c : ∀ w ∈ wsJx4a65c0, w ∈ wsX1_water := fun w h => List.mem_cons_of_mem _ (List.mem_append_left _ (List.mem_append_right _ h))
  have inX0 : ∀ w ∈ wsX00, w ∈ wsX1_water := fun w h => List.mem_cons_of_mem _ (List.mem_append_right _ h)
  have inX1 : ∀ w ∈ wsX10, w ∈ wsX1_water := fun w h => List.mem_cons_of_mem _ (List.mem_append_left _ (List.mem_append_left _ (List.mem_append_right _ h)))
  have hnb := hE.2.2.2.2.1 i (by omega)
  refine lv_iconst (v := 0) hx hb dX1_water_0 (by decide) ?_
  refine lv_istore_n (lv' := [(1, .int 0), (0, .ref (eAd E (5 + i)))]) hx hb dX1_water_1 rfl hl (by decide) rfl (fun ls hl => ?_)
  refine lv_iconst (v := 0) hx hb dX1_water_2 (by decide) ?_
  refine lv_istore_n (lv' := [(2, .int 0), (1, .int 0), (0, .ref (eAd E (5 + i)))]) hx hb dX1_water_3 rfl hl (by decide) rfl (fun ls hl => ?_)
  have loop4 : ∀ (n t : Nat), t + n = eNb E i → ∀ (H : Heap) (locs : List Loc) (ls : Array Slot), HS E s.heap v H locs → lv_has ls 3 [(0, .ref (eAd E (5 + i))), (1, .int (lwat E v i t)), (2, .int (nI t))] → W p l e ({ frames := 3, cells := 0, slots := 0, locals := 64 } : Room) s m ([.ref (eAd E (5 + i))] : List Value).toArray below meth c H locs 0 0 (Zi below E ([.ref (eAd E (5 + i))] : List Value).toArray s (lwat E v i (eNb E i)) v) (F0 m 4 ls []) := by
    intro n
    induction n with
    | zero =>
      intro t ht H locs ls hH hl
      obtain rfl : eNb E i = t := by omega
      refine lv_iload_n hx hb dX1_water_4 rfl (lv_at hl 2 rfl) ?_
      refine lv_aload_n hx hb dX1_water_5 rfl (lv_at hl 0 rfl) ?_
      refine g_get (x := .ref (eAd E (8 + i))) F hH inX1 (hE.1 _ (by have := hi; omega)) (cq_ld E _ hi) rfl 2 (by decide) (hts (.fieldLink RX1 22 "DryingKiln$Load" "boards" "Ljava/util/ArrayList;") (by decide +kernel)) (fun _ h => h) rfl dX1_water_6 ?_
      refine g_vi (As := []) F hH (c_Jx4a65c_size_8abf5 l E hE v i (by first | assumption | omega | decide)) (cwV 0 hts gX1_water_Jx4a65c_size_8abf5 rfl rfl rfl (by decide +kernel) ⟨Nat.le_of_ble_eq_true rfl, Nat.le_of_ble_eq_true rfl⟩) (hE.1 _ (by have := hi; omega)) (cq_li E _ hi) rfl rfl hl.1 [.int (nI (eNb E i))] rfl (Nat.le_of_ble_eq_true rfl) dX1_water_9 ⟨Nat.zero_le _, Nat.zero_le _⟩ (fun H locs hH => ?_)
      refine lv_icmp_ge (tgt := 38) hx hb dX1_water_12 (by decide) (fun c1 => ?_) (fun c1 => ?_)
      · skip
        refine lv_iload_n hx hb dX1_water_38 rfl (lv_at hl 1 rfl) ?_
        exact g_iret F hr hlk hH (by first | rfl | (simp only [c1, if_true, if_false, ↓reduceIte]; done) | (simp only [c1, if_true, if_false, ↓reduceIte]; rfl)) (by first | rfl | (simp only [c1, if_true, if_false, ↓reduceIte]; done) | (simp only [c1, if_true, if_false, ↓reduceIte]; rfl)) dX1_water_39
      · skip
        exact absurd (nI_le (Nat.le_refl _) (by omega)) c1
    | succ n ih =>
      intro t ht H locs ls hH hl
      have htN : t < eNb E i := by omega
      refine lv_iload_n hx hb dX1_water_4 rfl (lv_at hl 2 rfl) ?_
      refine lv_aload_n hx hb dX1_water_5 rfl (lv_at hl 0 rfl) ?_
      refine g_get (x := .ref (eAd E (8 + i))) F hH inX1 (hE.1 _ (by have := hi; omega)) (cq_ld E _ hi) rfl 2 (by decide) (hts (.fieldLink RX1 22 "DryingKiln$Load" "boards" "Ljava/util/ArrayList;") (by decide +kernel)) (fun _ h => h) rfl dX1_water_6 ?_
      refine g_vi (As := []) F hH (c_Jx4a65c_size_8abf5 l E hE v i (by first | assumption | omega | decide)) (cwV 0 hts gX1_water_Jx4a65c_size_8abf5 rfl rfl rfl (by decide +kernel) ⟨Nat.le_of_ble_eq_true rfl, Nat.le_of_ble_eq_true rfl⟩) (hE.1 _ (by have := hi; omega)) (cq_li E _ hi) rfl rfl hl.1 [.int (nI t)] rfl (Nat.le_of_ble_eq_true rfl) dX1_water_9 ⟨Nat.zero_le _, Nat.zero_le _⟩ (fun H locs hH => ?_)
      refine lv_icmp_ge (tgt := 38) hx hb dX1_water_12 (by decide) (fun c2 => ?_) (fun c2 => ?_)
      · skip
        exact absurd c2 (nI_ge htN (by omega))
      · skip
        refine lv_iload_n hx hb dX1_water_15 rfl (lv_at hl 1 rfl) ?_
        refine lv_aload_n hx hb dX1_water_16 rfl (lv_at hl 0 rfl) ?_
        refine g_get (x := .ref (eAd E (8 + i))) F hH inX1 (hE.1 _ (by have := hi; omega)) (cq_ld E _ hi) rfl 2 (by decide) (hts (.fieldLink RX1 22 "DryingKiln$Load" "boards" "Ljava/util/ArrayList;") (by decide +kernel)) (fun _ h => h) rfl dX1_water_17 ?_
        refine lv_iload_n hx hb dX1_water_20 rfl (lv_at hl 2 rfl) ?_
        refine g_vr (As := [.int (nI t)]) F hH (c_Jx4a65c_get_915e3 l E hE v i t (by first | assumption | omega | decide) (by first | assumption | omega | decide)) (cwV 1 hts gX1_water_Jx4a65c_get_915e3 rfl rfl rfl (by decide +kernel) ⟨Nat.le_of_ble_eq_true rfl, Nat.le_of_ble_eq_true rfl⟩) (hE.1 _ (by have := hi; omega)) (cq_li E _ hi) rfl rfl hl.1 [.int (lwat E v i t)] rfl (Nat.le_of_ble_eq_true rfl) dX1_water_21 ⟨Nat.zero_le _, Nat.zero_le _⟩ (fun H locs hH => ?_)
        refine g_cast F hH (hE.2.2.2.1 i t hi (by omega)).1 (cq_bo E _ (by omega)) (by rfl) (hts (.classLink RX1 34 "DryingKiln$Board") (by decide +kernel)) dX1_water_24 ?_
        refine g_vi (As := []) F hH (c_X0_water l E hE v i t (by first | assumption | omega | decide) (by first | assumption | omega | decide)) (cwV 0 hts gX1_water_X0_water rfl rfl rfl (by decide +kernel) ⟨Nat.le_of_ble_eq_true rfl, Nat.le_of_ble_eq_true rfl⟩) (hE.2.2.2.1 i t hi (by omega)).1 (cq_bo E _ (by omega)) rfl rfl hl.1 [.int (lwat E v i t)] rfl (Nat.le_of_ble_eq_true rfl) dX1_water_27 ⟨Nat.zero_le _, Nat.zero_le _⟩ (fun H locs hH => ?_)
        refine lv_iadd hx hb dX1_water_30 ?_
        refine lv_istore_n (lv' := [(1, .int ((lwat E v i t) + (psum (v (ba i t)) (eLn E t)))), (0, .ref (eAd E (5 + i))), (2, .int (nI t))]) hx hb dX1_water_31 rfl hl (by decide) rfl (fun ls hl => ?_)
        refine lv_iinc (v := nI (t + 1)) (lv' := [(2, .int (nI (t + 1))), (1, .int ((lwat E v i t) + (psum (v (ba i t)) (eLn E t)))), (0, .ref (eAd E (5 + i)))]) hx hb dX1_water_32 hl (k := 2) rfl (nI_1 _) (by decide) rfl (fun ls hl => ?_)
        refine lv_goto (tgt := 4) hx hb dX1_water_35 (by decide) ?_
        exact ih (t + 1) (by omega) _ _ ls (by first | exact hH | (simp only [c2, if_true, if_false, ↓reduceIte]; exact hH)) (by first | exact lv_sub hl [2, 1, 0] rfl | (have h := lv_sub hl [2, 1, 0] rfl; simp only [c2, if_true, if_false, ↓reduceIte]; exact h))
  exact loop4 (eNb E i) 0 (Nat.zero_add _) _ _ ls hH (lv_sub hl [2, 1, 0] rfl)

set_option maxHeartbeats 4000000 in
set_option maxRecDepth 100000 in
theorem c_X1_wettest (l : Launch) (E : Ev) (hE : EO E) (v : Mem) (i : Nat) (hi : i < 3) : Ci l yX1_wettest wsX1_wettest ({ frames := 3, cells := 0, slots := 0, locals := 64 } : Room) E [.ref (eAd E (5 + i))] v (lwb E v i (eNb E i)) v := by
  refine Ci.of (cc := cX1_wettest) (maxL := 5) (ret := (some .int)) (own := RX1) (by decide) rfl rfl (Nat.le_of_ble_eq_true rfl) ?_
  intro p e s m below meth c F hr hlk ls hl hH
  obtain ⟨hx, hb, hml, hown, hts⟩ := id F.1
  have hl : lv_has ls 5 [(0, .ref (eAd E (5 + i)))] := hl
  have inJx4a65c : ∀ w ∈ wsJx4a65c0, w ∈ wsX1_wettest := fun w h => List.mem_cons_of_mem _ (List.mem_append_left _ (List.mem_append_right _ h))
  have inX0 : ∀ w ∈ wsX00, w ∈ wsX1_wettest := fun w h => List.mem_cons_of_mem _ (List.mem_append_right _ h)
  have inX1 : ∀ w ∈ wsX10, w ∈ wsX1_wettest := fun w h => List.mem_cons_of_mem _ (List.mem_append_left _ (List.mem_append_left _ (List.mem_append_right _ h)))
  have hnb := hE.2.2.2.2.1 i (by omega)
  refine lv_ldc (v := -1000005) hx hb hown (hts (.constant RX1 47 (-1000005)) (by decide +kernel)) dX1_wettest_0 ?_
  refine lv_istore_n (lv' := [(1, .int (-1000005)), (0, .ref (eAd E (5 + i)))]) hx hb dX1_wettest_2 rfl hl (by decide) rfl (fun ls hl => ?_)
  refine lv_iconst (v := -1) hx hb dX1_wettest_3 (by decide) ?_
  refine lv_istore_n (lv' := [(2, .int (-1)), (1, .int (-1000005)), (0, .ref (eAd E (5 + i)))]) hx hb dX1_wettest_4 rfl hl (by decide) rfl (fun ls hl => ?_)
  refine lv_iconst (v := 0) hx hb dX1_wettest_5 (by decide) ?_
  refine lv_istore_n (lv' := [(3, .int 0), (2, .int (-1)), (1, .int (-1000005)), (0, .ref (eAd E (5 + i)))]) hx hb dX1_wettest_6 rfl hl (by decide) rfl (fun ls hl => ?_)
  have loop7 : ∀ (n t : Nat), t + n = eNb E i → ∀ (H : Heap) (locs : List Loc) (ls : Array Slot), HS E s.heap v H locs → lv_has ls 5 [(0, .ref (eAd E (5 + i))), (1, .int (lwb E v i t)), (2, .int (lwg E v i t)), (3, .int (nI t))] → W p l e ({ frames := 3, cells := 0, slots := 0, locals := 64 } : Room) s m ([.ref (eAd E (5 + i))] : List Value).toArray below meth c H locs 0 0 (Zi below E ([.ref (eAd E (5 + i))] : List Value).toArray s (lwb E v i (eNb E i)) v) (F0 m 7 ls []) := by
    intro n
    induction n with
    | zero =>
      intro t ht H locs ls hH hl
      obtain rfl : eNb E i = t := by omega
      refine lv_iload_n hx hb dX1_wettest_7 rfl (lv_at hl 3 rfl) ?_
      refine lv_aload_n hx hb dX1_wettest_8 rfl (lv_at hl 0 rfl) ?_
      refine g_get (x := .ref (eAd E (8 + i))) F hH inX1 (hE.1 _ (by have := hi; omega)) (cq_ld E _ hi) rfl 2 (by decide) (hts (.fieldLink RX1 22 "DryingKiln$Load" "boards" "Ljava/util/ArrayList;") (by decide +kernel)) (fun _ h => h) rfl dX1_wettest_9 ?_
      refine g_vi (As := []) F hH (c_Jx4a65c_size_8abf5 l E hE v i (by first | assumption | omega | decide)) (cwV 0 hts gX1_wettest_Jx4a65c_size_8abf5 rfl rfl rfl (by decide +kernel) ⟨Nat.le_of_ble_eq_true rfl, Nat.le_of_ble_eq_true rfl⟩) (hE.1 _ (by have := hi; omega)) (cq_li E _ hi) rfl rfl hl.1 [.int (nI (eNb E i))] rfl (Nat.le_of_ble_eq_true rfl) dX1_wettest_12 ⟨Nat.zero_le _, Nat.zero_le _⟩ (fun H locs hH => ?_)
      refine lv_icmp_ge (tgt := 51) hx hb dX1_wettest_15 (by decide) (fun c1 => ?_) (fun c1 => ?_)
      · skip
        refine lv_iload_n hx hb dX1_wettest_51 rfl (lv_at hl 1 rfl) ?_
        exact g_iret F hr hlk hH (by first | rfl | (simp only [lwb, lwg, c1, if_true, if_false, ↓reduceIte]; done) | (simp only [lwb, lwg, c1, if_true, if_false, ↓reduceIte]; rfl)) (by first | rfl | (simp only [lwb, lwg, c1, if_true, if_false, ↓reduceIte]; done) | (simp only [lwb, lwg, c1, if_true, if_false, ↓reduceIte]; rfl)) dX1_wettest_52
      · skip
        exact absurd (nI_le (Nat.le_refl _) (by omega)) c1
    | succ n ih =>
      intro t ht H locs ls hH hl
      have htN : t < eNb E i := by omega
      refine lv_iload_n hx hb dX1_wettest_7 rfl (lv_at hl 3 rfl) ?_
      refine lv_aload_n hx hb dX1_wettest_8 rfl (lv_at hl 0 rfl) ?_
      refine g_get (x := .ref (eAd E (8 + i))) F hH inX1 (hE.1 _ (by have := hi; omega)) (cq_ld E _ hi) rfl 2 (by decide) (hts (.fieldLink RX1 22 "DryingKiln$Load" "boards" "Ljava/util/ArrayList;") (by decide +kernel)) (fun _ h => h) rfl dX1_wettest_9 ?_
      refine g_vi (As := []) F hH (c_Jx4a65c_size_8abf5 l E hE v i (by first | assumption | omega | decide)) (cwV 0 hts gX1_wettest_Jx4a65c_size_8abf5 rfl rfl rfl (by decide +kernel) ⟨Nat.le_of_ble_eq_true rfl, Nat.le_of_ble_eq_true rfl⟩) (hE.1 _ (by have := hi; omega)) (cq_li E _ hi) rfl rfl hl.1 [.int (nI t)] rfl (Nat.le_of_ble_eq_true rfl) dX1_wettest_12 ⟨Nat.zero_le _, Nat.zero_le _⟩ (fun H locs hH => ?_)
      refine lv_icmp_ge (tgt := 51) hx hb dX1_wettest_15 (by decide) (fun c2 => ?_) (fun c2 => ?_)
      · skip
        exact absurd c2 (nI_ge htN (by omega))
      · skip
        refine lv_aload_n hx hb dX1_wettest_18 rfl (lv_at hl 0 rfl) ?_
        refine g_get (x := .ref (eAd E (8 + i))) F hH inX1 (hE.1 _ (by have := hi; omega)) (cq_ld E _ hi) rfl 2 (by decide) (hts (.fieldLink RX1 22 "DryingKiln$Load" "boards" "Ljava/util/ArrayList;") (by decide +kernel)) (fun _ h => h) rfl dX1_wettest_19 ?_
        refine lv_iload_n hx hb dX1_wettest_22 rfl (lv_at hl 3 rfl) ?_
        refine g_vr (As := [.int (nI t)]) F hH (c_Jx4a65c_get_915e3 l E hE v i t (by first | assumption | omega | decide) (by first | assumption | omega | decide)) (cwV 1 hts gX1_wettest_Jx4a65c_get_915e3 rfl rfl rfl (by decide +kernel) ⟨Nat.le_of_ble_eq_true rfl, Nat.le_of_ble_eq_true rfl⟩) (hE.1 _ (by have := hi; omega)) (cq_li E _ hi) rfl rfl hl.1 [] rfl (Nat.le_of_ble_eq_true rfl) dX1_wettest_23 ⟨Nat.zero_le _, Nat.zero_le _⟩ (fun H locs hH => ?_)
        refine g_cast F hH (hE.2.2.2.1 i t hi (by omega)).1 (cq_bo E _ (by omega)) (by rfl) (hts (.classLink RX1 34 "DryingKiln$Board") (by decide +kernel)) dX1_wettest_26 ?_
        refine g_vi (As := []) F hH (c_X0_average l E hE v i t (by first | assumption | omega | decide) (by first | assumption | omega | decide)) (cwV 0 hts gX1_wettest_X0_average rfl rfl rfl (by decide +kernel) ⟨Nat.le_of_ble_eq_true rfl, Nat.le_of_ble_eq_true rfl⟩) (hE.2.2.2.1 i t hi (by omega)).1 (cq_bo E _ (by omega)) rfl rfl hl.1 [] rfl (Nat.le_of_ble_eq_true rfl) dX1_wettest_29 ⟨Nat.zero_le _, Nat.zero_le _⟩ (fun H locs hH => ?_)
        refine lv_istore (lv' := [(4, .int (lavg E v i t)), (0, .ref (eAd E (5 + i))), (1, .int (lwb E v i t)), (2, .int (lwg E v i t)), (3, .int (nI t))]) hx hb dX1_wettest_32 hl (by decide) rfl (fun ls hl => ?_)
        refine lv_iload hx hb dX1_wettest_34 (lv_at hl 0 rfl) ?_
        refine lv_iload_n hx hb dX1_wettest_36 rfl (lv_at hl 3 rfl) ?_
        refine lv_icmp_le (tgt := 45) hx hb dX1_wettest_37 (by decide) (fun c3 => ?_) (fun c3 => ?_)
        · skip
          refine lv_iinc (v := nI (t + 1)) (lv' := [(3, .int (nI (t + 1))), (4, .int (lavg E v i t)), (0, .ref (eAd E (5 + i))), (1, .int (lwb E v i t)), (2, .int (lwg E v i t))]) hx hb dX1_wettest_45 hl (k := 4) rfl (nI_1 _) (by decide) rfl (fun ls hl => ?_)
          refine lv_goto (tgt := 7) hx hb dX1_wettest_48 (by decide) ?_
          exact ih (t + 1) (by omega) _ _ ls (by first | exact hH | (simp only [lwb, lwg, c2, c3, if_true, if_false, ↓reduceIte]; exact hH)) (by first | exact lv_sub hl [2, 3, 4, 0] rfl | (have h := lv_sub hl [2, 3, 4, 0] rfl; simp only [lwb, lwg, c2, c3, if_true, if_false, ↓reduceIte]; exact h))
        · skip
          refine lv_iload_n hx hb dX1_wettest_40 rfl (lv_at hl 4 rfl) ?_
          refine lv_istore_n (lv' := [(1, .int (nI t)), (4, .int (lavg E v i t)), (0, .ref (eAd E (5 + i))), (2, .int (lwg E v i t)), (3, .int (nI t))]) hx hb dX1_wettest_41 rfl hl (by decide) rfl (fun ls hl => ?_)
          refine lv_iload hx hb dX1_wettest_42 (lv_at hl 1 rfl) ?_
          refine lv_istore_n (lv' := [(2, .int (lavg E v i t)), (1, .int (nI t)), (4, .int (lavg E v i t)), (0, .ref (eAd E (5 + i))), (3, .int (nI t))]) hx hb dX1_wettest_44 rfl hl (by decide) rfl (fun ls hl => ?_)
          refine lv_iinc (v := nI (t + 1)) (lv' := [(3, .int (nI (t + 1))), (2, .int (lavg E v i t)), (1, .int (nI t)), (4, .int (lavg E v i t)), (0, .ref (eAd E (5 + i)))]) hx hb dX1_wettest_45 hl (k := 4) rfl (nI_1 _) (by decide) rfl (fun ls hl => ?_)
          refine lv_goto (tgt := 7) hx hb dX1_wettest_48 (by decide) ?_
          exact ih (t + 1) (by omega) _ _ ls (by first | exact hH | (simp only [lwb, lwg, c2, c3, if_true, if_false, ↓reduceIte]; exact hH)) (by first | exact lv_sub hl [4, 2, 1, 0] rfl | (have h := lv_sub hl [4, 2, 1, 0] rfl; simp only [lwb, lwg, c2, c3, if_true, if_false, ↓reduceIte]; exact h))
  exact loop7 (eNb E i) 0 (Nat.zero_add _) _ _ ls hH (lv_sub hl [3, 2, 1, 0] rfl)

set_option maxHeartbeats 4000000 in
set_option maxRecDepth 100000 in
theorem c_X1_greatestAverage (l : Launch) (E : Ev) (hE : EO E) (v : Mem) (i : Nat) (hi : i < 3) : Ci l yX1_greatestAverage wsX1_greatestAverage ({ frames := 3, cells := 0, slots := 0, locals := 64 } : Room) E [.ref (eAd E (5 + i))] v (lga E v i (eNb E i)) v := by
  refine Ci.of (cc := cX1_greatestAverage) (maxL := 3) (ret := (some .int)) (own := RX1) (by decide) rfl rfl (Nat.le_of_ble_eq_true rfl) ?_
  intro p e s m below meth c F hr hlk ls hl hH
  obtain ⟨hx, hb, hml, hown, hts⟩ := id F.1
  have hl : lv_has ls 3 [(0, .ref (eAd E (5 + i)))] := hl
  have inJx4a65c : ∀ w ∈ wsJx4a65c0, w ∈ wsX1_greatestAverage := fun w h => List.mem_cons_of_mem _ (List.mem_append_left _ (List.mem_append_right _ h))
  have inX0 : ∀ w ∈ wsX00, w ∈ wsX1_greatestAverage := fun w h => List.mem_cons_of_mem _ (List.mem_append_right _ h)
  have inX1 : ∀ w ∈ wsX10, w ∈ wsX1_greatestAverage := fun w h => List.mem_cons_of_mem _ (List.mem_append_left _ (List.mem_append_left _ (List.mem_append_right _ h)))
  have hnb := hE.2.2.2.2.1 i (by omega)
  refine lv_iconst (v := 0) hx hb dX1_greatestAverage_0 (by decide) ?_
  refine lv_istore_n (lv' := [(1, .int 0), (0, .ref (eAd E (5 + i)))]) hx hb dX1_greatestAverage_1 rfl hl (by decide) rfl (fun ls hl => ?_)
  refine lv_iconst (v := 0) hx hb dX1_greatestAverage_2 (by decide) ?_
  refine lv_istore_n (lv' := [(2, .int 0), (1, .int 0), (0, .ref (eAd E (5 + i)))]) hx hb dX1_greatestAverage_3 rfl hl (by decide) rfl (fun ls hl => ?_)
  have loop4 : ∀ (n t : Nat), t + n = eNb E i → ∀ (H : Heap) (locs : List Loc) (ls : Array Slot), HS E s.heap v H locs → lv_has ls 3 [(0, .ref (eAd E (5 + i))), (1, .int (lga E v i t)), (2, .int (nI t))] → W p l e ({ frames := 3, cells := 0, slots := 0, locals := 64 } : Room) s m ([.ref (eAd E (5 + i))] : List Value).toArray below meth c H locs 0 0 (Zi below E ([.ref (eAd E (5 + i))] : List Value).toArray s (lga E v i (eNb E i)) v) (F0 m 4 ls []) := by
    intro n
    induction n with
    | zero =>
      intro t ht H locs ls hH hl
      obtain rfl : eNb E i = t := by omega
      refine lv_iload_n hx hb dX1_greatestAverage_4 rfl (lv_at hl 2 rfl) ?_
      refine lv_aload_n hx hb dX1_greatestAverage_5 rfl (lv_at hl 0 rfl) ?_
      refine g_get (x := .ref (eAd E (8 + i))) F hH inX1 (hE.1 _ (by have := hi; omega)) (cq_ld E _ hi) rfl 2 (by decide) (hts (.fieldLink RX1 22 "DryingKiln$Load" "boards" "Ljava/util/ArrayList;") (by decide +kernel)) (fun _ h => h) rfl dX1_greatestAverage_6 ?_
      refine g_vi (As := []) F hH (c_Jx4a65c_size_8abf5 l E hE v i (by first | assumption | omega | decide)) (cwV 0 hts gX1_greatestAverage_Jx4a65c_size_8abf5 rfl rfl rfl (by decide +kernel) ⟨Nat.le_of_ble_eq_true rfl, Nat.le_of_ble_eq_true rfl⟩) (hE.1 _ (by have := hi; omega)) (cq_li E _ hi) rfl rfl hl.1 [.int (nI (eNb E i))] rfl (Nat.le_of_ble_eq_true rfl) dX1_greatestAverage_9 ⟨Nat.zero_le _, Nat.zero_le _⟩ (fun H locs hH => ?_)
      refine lv_icmp_ge (tgt := 40) hx hb dX1_greatestAverage_12 (by decide) (fun c1 => ?_) (fun c1 => ?_)
      · skip
        refine lv_iload_n hx hb dX1_greatestAverage_40 rfl (lv_at hl 1 rfl) ?_
        exact g_iret F hr hlk hH (by first | rfl | (simp only [c1, if_true, if_false, ↓reduceIte]; done) | (simp only [c1, if_true, if_false, ↓reduceIte]; rfl)) (by first | rfl | (simp only [c1, if_true, if_false, ↓reduceIte]; done) | (simp only [c1, if_true, if_false, ↓reduceIte]; rfl)) dX1_greatestAverage_41
      · skip
        exact absurd (nI_le (Nat.le_refl _) (by omega)) c1
    | succ n ih =>
      intro t ht H locs ls hH hl
      have htN : t < eNb E i := by omega
      refine lv_iload_n hx hb dX1_greatestAverage_4 rfl (lv_at hl 2 rfl) ?_
      refine lv_aload_n hx hb dX1_greatestAverage_5 rfl (lv_at hl 0 rfl) ?_
      refine g_get (x := .ref (eAd E (8 + i))) F hH inX1 (hE.1 _ (by have := hi; omega)) (cq_ld E _ hi) rfl 2 (by decide) (hts (.fieldLink RX1 22 "DryingKiln$Load" "boards" "Ljava/util/ArrayList;") (by decide +kernel)) (fun _ h => h) rfl dX1_greatestAverage_6 ?_
      refine g_vi (As := []) F hH (c_Jx4a65c_size_8abf5 l E hE v i (by first | assumption | omega | decide)) (cwV 0 hts gX1_greatestAverage_Jx4a65c_size_8abf5 rfl rfl rfl (by decide +kernel) ⟨Nat.le_of_ble_eq_true rfl, Nat.le_of_ble_eq_true rfl⟩) (hE.1 _ (by have := hi; omega)) (cq_li E _ hi) rfl rfl hl.1 [.int (nI t)] rfl (Nat.le_of_ble_eq_true rfl) dX1_greatestAverage_9 ⟨Nat.zero_le _, Nat.zero_le _⟩ (fun H locs hH => ?_)
      refine lv_icmp_ge (tgt := 40) hx hb dX1_greatestAverage_12 (by decide) (fun c2 => ?_) (fun c2 => ?_)
      · skip
        exact absurd c2 (nI_ge htN (by omega))
      · skip
        refine lv_iload_n hx hb dX1_greatestAverage_15 rfl (lv_at hl 1 rfl) ?_
        refine lv_aload_n hx hb dX1_greatestAverage_16 rfl (lv_at hl 0 rfl) ?_
        refine g_get (x := .ref (eAd E (8 + i))) F hH inX1 (hE.1 _ (by have := hi; omega)) (cq_ld E _ hi) rfl 2 (by decide) (hts (.fieldLink RX1 22 "DryingKiln$Load" "boards" "Ljava/util/ArrayList;") (by decide +kernel)) (fun _ h => h) rfl dX1_greatestAverage_17 ?_
        refine lv_iload_n hx hb dX1_greatestAverage_20 rfl (lv_at hl 2 rfl) ?_
        refine g_vr (As := [.int (nI t)]) F hH (c_Jx4a65c_get_915e3 l E hE v i t (by first | assumption | omega | decide) (by first | assumption | omega | decide)) (cwV 1 hts gX1_greatestAverage_Jx4a65c_get_915e3 rfl rfl rfl (by decide +kernel) ⟨Nat.le_of_ble_eq_true rfl, Nat.le_of_ble_eq_true rfl⟩) (hE.1 _ (by have := hi; omega)) (cq_li E _ hi) rfl rfl hl.1 [.int (lga E v i t)] rfl (Nat.le_of_ble_eq_true rfl) dX1_greatestAverage_21 ⟨Nat.zero_le _, Nat.zero_le _⟩ (fun H locs hH => ?_)
        refine g_cast F hH (hE.2.2.2.1 i t hi (by omega)).1 (cq_bo E _ (by omega)) (by rfl) (hts (.classLink RX1 34 "DryingKiln$Board") (by decide +kernel)) dX1_greatestAverage_24 ?_
        refine g_vi (As := []) F hH (c_X0_average l E hE v i t (by first | assumption | omega | decide) (by first | assumption | omega | decide)) (cwV 0 hts gX1_greatestAverage_X0_average rfl rfl rfl (by decide +kernel) ⟨Nat.le_of_ble_eq_true rfl, Nat.le_of_ble_eq_true rfl⟩) (hE.2.2.2.1 i t hi (by omega)).1 (cq_bo E _ (by omega)) rfl rfl hl.1 [.int (lga E v i t)] rfl (Nat.le_of_ble_eq_true rfl) dX1_greatestAverage_27 ⟨Nat.zero_le _, Nat.zero_le _⟩ (fun H locs hH => ?_)
        refine va_mmax hx hb (by rw [hml]; exact hl.1.symm) hown (hts (.methodLink RX1 51 Lib.Math.max.name) (by decide +kernel)) (hts (.static Lib.Math.max.name) (by decide +kernel)) (hts (.initialized "java/lang/Math") (by decide +kernel)) (hts (.code Lib.Math.max.name Lib.Math.max.code 2 (some .int)) (by decide +kernel)) (Nat.le_of_ble_eq_true rfl) (Nat.le_of_ble_eq_true rfl) (Nat.zero_le _) (Nat.zero_le _) dX1_greatestAverage_30 ?_
        rw [← imx_eq (lga E v i t) (lavg E v i t)]
        refine lv_istore_n (lv' := [(1, .int (imx (lga E v i t) (lavg E v i t))), (0, .ref (eAd E (5 + i))), (2, .int (nI t))]) hx hb dX1_greatestAverage_33 rfl hl (by decide) rfl (fun ls hl => ?_)
        refine lv_iinc (v := nI (t + 1)) (lv' := [(2, .int (nI (t + 1))), (1, .int (imx (lga E v i t) (lavg E v i t))), (0, .ref (eAd E (5 + i)))]) hx hb dX1_greatestAverage_34 hl (k := 2) rfl (nI_1 _) (by decide) rfl (fun ls hl => ?_)
        refine lv_goto (tgt := 4) hx hb dX1_greatestAverage_37 (by decide) ?_
        exact ih (t + 1) (by omega) _ _ ls (by first | exact hH | (simp only [c2, if_true, if_false, ↓reduceIte]; exact hH)) (by first | exact lv_sub hl [2, 1, 0] rfl | (have h := lv_sub hl [2, 1, 0] rfl; simp only [c2, if_true, if_false, ↓reduceIte]; exact h))
  exact loop4 (eNb E i) 0 (Nat.zero_add _) _ _ ls hH (lv_sub hl [2, 1, 0] rfl)

set_option maxHeartbeats 4000000 in
set_option maxRecDepth 100000 in
theorem c_X1_isWetterThan (l : Launch) (E : Ev) (hE : EO E) (v : Mem) (i : Nat) (a : Int32) (hi : i < 3) : Ci l yX1_isWetterThan wsX1_isWetterThan ({ frames := 4, cells := 0, slots := 0, locals := 86 } : Room) E [.ref (eAd E (5 + i)), .int a] v (iwt E v i a) v := by
  refine Ci.of (cc := cX1_isWetterThan) (maxL := 2) (ret := (some .boolean)) (own := RX1) (by decide) rfl rfl (Nat.le_of_ble_eq_true rfl) ?_
  intro p e s m below meth c F hr hlk ls hl hH
  obtain ⟨hx, hb, hml, hown, hts⟩ := id F.1
  have hl : lv_has ls 2 [(0, .ref (eAd E (5 + i))), (1, .int a)] := hl
  have inJx4a65c : ∀ w ∈ wsJx4a65c0, w ∈ wsX1_isWetterThan := fun w h => List.mem_cons_of_mem _ (List.mem_append_left _ (List.mem_append_right _ h))
  have inX0 : ∀ w ∈ wsX00, w ∈ wsX1_isWetterThan := fun w h => List.mem_cons_of_mem _ (List.mem_append_right _ h)
  have inX1 : ∀ w ∈ wsX10, w ∈ wsX1_isWetterThan := fun w h => List.mem_cons_of_mem _ (List.mem_append_left _ (List.mem_append_left _ (List.mem_append_right _ h)))
  refine lv_aload_n hx hb dX1_isWetterThan_0 rfl (lv_at hl 0 rfl) ?_
  refine g_vi (As := []) F hH (c_X1_greatestAverage l E hE v i (by first | assumption | omega | decide)) (cwV 0 hts gX1_isWetterThan_X1_greatestAverage rfl rfl rfl (by decide +kernel) ⟨Nat.le_of_ble_eq_true rfl, Nat.le_of_ble_eq_true rfl⟩) (hE.1 _ (by have := hi; omega)) (cq_ld E _ hi) rfl rfl hl.1 [] rfl (Nat.le_of_ble_eq_true rfl) dX1_isWetterThan_1 ⟨Nat.zero_le _, Nat.zero_le _⟩ (fun H locs hH => ?_)
  refine lv_iload_n hx hb dX1_isWetterThan_4 rfl (lv_at hl 1 rfl) ?_
  refine lv_icmp_le (tgt := 12) hx hb dX1_isWetterThan_5 (by decide) (fun c1 => ?_) (fun c1 => ?_)
  · skip
    refine lv_iconst (v := 0) hx hb dX1_isWetterThan_12 (by decide) ?_
    exact g_zret F hr hlk hH (by rfl) (by first | rfl | (simp only [iwt, c1, if_true, if_false, ↓reduceIte]; done) | (simp only [iwt, c1, if_true, if_false, ↓reduceIte]; rfl)) (by first | rfl | (simp only [iwt, c1, if_true, if_false, ↓reduceIte]; done) | (simp only [iwt, c1, if_true, if_false, ↓reduceIte]; rfl)) dX1_isWetterThan_13
  · skip
    refine lv_iconst (v := 1) hx hb dX1_isWetterThan_8 (by decide) ?_
    refine lv_goto (tgt := 13) hx hb dX1_isWetterThan_9 (by decide) ?_
    exact g_zret F hr hlk hH (by rfl) (by first | rfl | (simp only [iwt, c1, if_true, if_false, ↓reduceIte]; done) | (simp only [iwt, c1, if_true, if_false, ↓reduceIte]; rfl)) (by first | rfl | (simp only [iwt, c1, if_true, if_false, ↓reduceIte]; done) | (simp only [iwt, c1, if_true, if_false, ↓reduceIte]; rfl)) dX1_isWetterThan_13

set_option maxHeartbeats 4000000 in
set_option maxRecDepth 100000 in
theorem c_X1_greatestGradient (l : Launch) (E : Ev) (hE : EO E) (v : Mem) (i : Nat) (hi : i < 3) : Ci l yX1_greatestGradient wsX1_greatestGradient ({ frames := 3, cells := 0, slots := 0, locals := 64 } : Room) E [.ref (eAd E (5 + i))] v (lgg E v i (eNb E i)) v := by
  refine Ci.of (cc := cX1_greatestGradient) (maxL := 3) (ret := (some .int)) (own := RX1) (by decide) rfl rfl (Nat.le_of_ble_eq_true rfl) ?_
  intro p e s m below meth c F hr hlk ls hl hH
  obtain ⟨hx, hb, hml, hown, hts⟩ := id F.1
  have hl : lv_has ls 3 [(0, .ref (eAd E (5 + i)))] := hl
  have inJx4a65c : ∀ w ∈ wsJx4a65c0, w ∈ wsX1_greatestGradient := fun w h => List.mem_cons_of_mem _ (List.mem_append_left _ (List.mem_append_right _ h))
  have inX0 : ∀ w ∈ wsX00, w ∈ wsX1_greatestGradient := fun w h => List.mem_cons_of_mem _ (List.mem_append_right _ h)
  have inX1 : ∀ w ∈ wsX10, w ∈ wsX1_greatestGradient := fun w h => List.mem_cons_of_mem _ (List.mem_append_left _ (List.mem_append_left _ (List.mem_append_right _ h)))
  have hnb := hE.2.2.2.2.1 i (by omega)
  refine lv_iconst (v := 0) hx hb dX1_greatestGradient_0 (by decide) ?_
  refine lv_istore_n (lv' := [(1, .int 0), (0, .ref (eAd E (5 + i)))]) hx hb dX1_greatestGradient_1 rfl hl (by decide) rfl (fun ls hl => ?_)
  refine lv_iconst (v := 0) hx hb dX1_greatestGradient_2 (by decide) ?_
  refine lv_istore_n (lv' := [(2, .int 0), (1, .int 0), (0, .ref (eAd E (5 + i)))]) hx hb dX1_greatestGradient_3 rfl hl (by decide) rfl (fun ls hl => ?_)
  have loop4 : ∀ (n t : Nat), t + n = eNb E i → ∀ (H : Heap) (locs : List Loc) (ls : Array Slot), HS E s.heap v H locs → lv_has ls 3 [(0, .ref (eAd E (5 + i))), (1, .int (lgg E v i t)), (2, .int (nI t))] → W p l e ({ frames := 3, cells := 0, slots := 0, locals := 64 } : Room) s m ([.ref (eAd E (5 + i))] : List Value).toArray below meth c H locs 0 0 (Zi below E ([.ref (eAd E (5 + i))] : List Value).toArray s (lgg E v i (eNb E i)) v) (F0 m 4 ls []) := by
    intro n
    induction n with
    | zero =>
      intro t ht H locs ls hH hl
      obtain rfl : eNb E i = t := by omega
      refine lv_iload_n hx hb dX1_greatestGradient_4 rfl (lv_at hl 2 rfl) ?_
      refine lv_aload_n hx hb dX1_greatestGradient_5 rfl (lv_at hl 0 rfl) ?_
      refine g_get (x := .ref (eAd E (8 + i))) F hH inX1 (hE.1 _ (by have := hi; omega)) (cq_ld E _ hi) rfl 2 (by decide) (hts (.fieldLink RX1 22 "DryingKiln$Load" "boards" "Ljava/util/ArrayList;") (by decide +kernel)) (fun _ h => h) rfl dX1_greatestGradient_6 ?_
      refine g_vi (As := []) F hH (c_Jx4a65c_size_8abf5 l E hE v i (by first | assumption | omega | decide)) (cwV 0 hts gX1_greatestGradient_Jx4a65c_size_8abf5 rfl rfl rfl (by decide +kernel) ⟨Nat.le_of_ble_eq_true rfl, Nat.le_of_ble_eq_true rfl⟩) (hE.1 _ (by have := hi; omega)) (cq_li E _ hi) rfl rfl hl.1 [.int (nI (eNb E i))] rfl (Nat.le_of_ble_eq_true rfl) dX1_greatestGradient_9 ⟨Nat.zero_le _, Nat.zero_le _⟩ (fun H locs hH => ?_)
      refine lv_icmp_ge (tgt := 40) hx hb dX1_greatestGradient_12 (by decide) (fun c1 => ?_) (fun c1 => ?_)
      · skip
        refine lv_iload_n hx hb dX1_greatestGradient_40 rfl (lv_at hl 1 rfl) ?_
        exact g_iret F hr hlk hH (by first | rfl | (simp only [c1, if_true, if_false, ↓reduceIte]; done) | (simp only [c1, if_true, if_false, ↓reduceIte]; rfl)) (by first | rfl | (simp only [c1, if_true, if_false, ↓reduceIte]; done) | (simp only [c1, if_true, if_false, ↓reduceIte]; rfl)) dX1_greatestGradient_41
      · skip
        exact absurd (nI_le (Nat.le_refl _) (by omega)) c1
    | succ n ih =>
      intro t ht H locs ls hH hl
      have htN : t < eNb E i := by omega
      refine lv_iload_n hx hb dX1_greatestGradient_4 rfl (lv_at hl 2 rfl) ?_
      refine lv_aload_n hx hb dX1_greatestGradient_5 rfl (lv_at hl 0 rfl) ?_
      refine g_get (x := .ref (eAd E (8 + i))) F hH inX1 (hE.1 _ (by have := hi; omega)) (cq_ld E _ hi) rfl 2 (by decide) (hts (.fieldLink RX1 22 "DryingKiln$Load" "boards" "Ljava/util/ArrayList;") (by decide +kernel)) (fun _ h => h) rfl dX1_greatestGradient_6 ?_
      refine g_vi (As := []) F hH (c_Jx4a65c_size_8abf5 l E hE v i (by first | assumption | omega | decide)) (cwV 0 hts gX1_greatestGradient_Jx4a65c_size_8abf5 rfl rfl rfl (by decide +kernel) ⟨Nat.le_of_ble_eq_true rfl, Nat.le_of_ble_eq_true rfl⟩) (hE.1 _ (by have := hi; omega)) (cq_li E _ hi) rfl rfl hl.1 [.int (nI t)] rfl (Nat.le_of_ble_eq_true rfl) dX1_greatestGradient_9 ⟨Nat.zero_le _, Nat.zero_le _⟩ (fun H locs hH => ?_)
      refine lv_icmp_ge (tgt := 40) hx hb dX1_greatestGradient_12 (by decide) (fun c2 => ?_) (fun c2 => ?_)
      · skip
        exact absurd c2 (nI_ge htN (by omega))
      · skip
        refine lv_iload_n hx hb dX1_greatestGradient_15 rfl (lv_at hl 1 rfl) ?_
        refine lv_aload_n hx hb dX1_greatestGradient_16 rfl (lv_at hl 0 rfl) ?_
        refine g_get (x := .ref (eAd E (8 + i))) F hH inX1 (hE.1 _ (by have := hi; omega)) (cq_ld E _ hi) rfl 2 (by decide) (hts (.fieldLink RX1 22 "DryingKiln$Load" "boards" "Ljava/util/ArrayList;") (by decide +kernel)) (fun _ h => h) rfl dX1_greatestGradient_17 ?_
        refine lv_iload_n hx hb dX1_greatestGradient_20 rfl (lv_at hl 2 rfl) ?_
        refine g_vr (As := [.int (nI t)]) F hH (c_Jx4a65c_get_915e3 l E hE v i t (by first | assumption | omega | decide) (by first | assumption | omega | decide)) (cwV 1 hts gX1_greatestGradient_Jx4a65c_get_915e3 rfl rfl rfl (by decide +kernel) ⟨Nat.le_of_ble_eq_true rfl, Nat.le_of_ble_eq_true rfl⟩) (hE.1 _ (by have := hi; omega)) (cq_li E _ hi) rfl rfl hl.1 [.int (lgg E v i t)] rfl (Nat.le_of_ble_eq_true rfl) dX1_greatestGradient_21 ⟨Nat.zero_le _, Nat.zero_le _⟩ (fun H locs hH => ?_)
        refine g_cast F hH (hE.2.2.2.1 i t hi (by omega)).1 (cq_bo E _ (by omega)) (by rfl) (hts (.classLink RX1 34 "DryingKiln$Board") (by decide +kernel)) dX1_greatestGradient_24 ?_
        refine g_vi (As := []) F hH (c_X0_gradient l E hE v i t (by first | assumption | omega | decide) (by first | assumption | omega | decide)) (cwV 0 hts gX1_greatestGradient_X0_gradient rfl rfl rfl (by decide +kernel) ⟨Nat.le_of_ble_eq_true rfl, Nat.le_of_ble_eq_true rfl⟩) (hE.2.2.2.1 i t hi (by omega)).1 (cq_bo E _ (by omega)) rfl rfl hl.1 [.int (lgg E v i t)] rfl (Nat.le_of_ble_eq_true rfl) dX1_greatestGradient_27 ⟨Nat.zero_le _, Nat.zero_le _⟩ (fun H locs hH => ?_)
        refine va_mmax hx hb (by rw [hml]; exact hl.1.symm) hown (hts (.methodLink RX1 51 Lib.Math.max.name) (by decide +kernel)) (hts (.static Lib.Math.max.name) (by decide +kernel)) (hts (.initialized "java/lang/Math") (by decide +kernel)) (hts (.code Lib.Math.max.name Lib.Math.max.code 2 (some .int)) (by decide +kernel)) (Nat.le_of_ble_eq_true rfl) (Nat.le_of_ble_eq_true rfl) (Nat.zero_le _) (Nat.zero_le _) dX1_greatestGradient_30 ?_
        rw [← imx_eq (lgg E v i t) (pstr (v (ba i t)) (eLn E t))]
        refine lv_istore_n (lv' := [(1, .int (imx (lgg E v i t) (pstr (v (ba i t)) (eLn E t)))), (0, .ref (eAd E (5 + i))), (2, .int (nI t))]) hx hb dX1_greatestGradient_33 rfl hl (by decide) rfl (fun ls hl => ?_)
        refine lv_iinc (v := nI (t + 1)) (lv' := [(2, .int (nI (t + 1))), (1, .int (imx (lgg E v i t) (pstr (v (ba i t)) (eLn E t)))), (0, .ref (eAd E (5 + i)))]) hx hb dX1_greatestGradient_34 hl (k := 2) rfl (nI_1 _) (by decide) rfl (fun ls hl => ?_)
        refine lv_goto (tgt := 4) hx hb dX1_greatestGradient_37 (by decide) ?_
        exact ih (t + 1) (by omega) _ _ ls (by first | exact hH | (simp only [c2, if_true, if_false, ↓reduceIte]; exact hH)) (by first | exact lv_sub hl [2, 1, 0] rfl | (have h := lv_sub hl [2, 1, 0] rfl; simp only [c2, if_true, if_false, ↓reduceIte]; exact h))
  exact loop4 (eNb E i) 0 (Nat.zero_add _) _ _ ls hH (lv_sub hl [2, 1, 0] rfl)

set_option maxHeartbeats 4000000 in
set_option maxRecDepth 100000 in
theorem c_J6_bitCount_0f7a4 (l : Launch) (E : Ev) (hE : EO E) (v : Mem) (a : Int32) : Ci l yJ6_bitCount_0f7a4 wsJ6_bitCount_0f7a4 ({ frames := 0, cells := 0, slots := 0, locals := 0 } : Room) E [.int a] v (bitc a) v := by
  refine Ci.of (cc := cJ6_bitCount_0f7a4) (maxL := 1) (ret := (some .int)) (own := RJ6) (by decide) rfl rfl (Nat.le_of_ble_eq_true rfl) ?_
  intro p e s m below meth c F hr hlk ls hl hH
  obtain ⟨hx, hb, hml, hown, hts⟩ := id F.1
  have hl : lv_has ls 1 [(0, .int a)] := hl
  refine lv_iload_n hx hb dJ6_bitCount_0f7a4_0 rfl (lv_at hl 0 rfl) ?_
  refine lv_iload_n hx hb dJ6_bitCount_0f7a4_1 rfl (lv_at hl 0 rfl) ?_
  refine lv_iconst (v := 1) hx hb dJ6_bitCount_0f7a4_2 (by decide) ?_
  refine lv_iushr (v := bsh a 1) hx hb dJ6_bitCount_0f7a4_3 rfl ?_
  refine lv_ldcw (v := 1431655765) hx hb hown (hts (.constant RJ6 265 (1431655765)) (by decide +kernel)) dJ6_bitCount_0f7a4_4 ?_
  refine lv_iand hx hb dJ6_bitCount_0f7a4_7 ?_
  refine lv_isub hx hb dJ6_bitCount_0f7a4_8 ?_
  refine lv_istore_n (lv' := [(0, .int (a - ((bsh a 1) &&& 1431655765)))]) hx hb dJ6_bitCount_0f7a4_9 rfl hl (by decide) rfl (fun ls hl => ?_)
  refine lv_iload_n hx hb dJ6_bitCount_0f7a4_10 rfl (lv_at hl 0 rfl) ?_
  refine lv_ldcw (v := 858993459) hx hb hown (hts (.constant RJ6 266 (858993459)) (by decide +kernel)) dJ6_bitCount_0f7a4_11 ?_
  refine lv_iand hx hb dJ6_bitCount_0f7a4_14 ?_
  refine lv_iload_n hx hb dJ6_bitCount_0f7a4_15 rfl (lv_at hl 0 rfl) ?_
  refine lv_iconst (v := 2) hx hb dJ6_bitCount_0f7a4_16 (by decide) ?_
  refine lv_iushr (v := bsh (a - ((bsh a 1) &&& 1431655765)) 2) hx hb dJ6_bitCount_0f7a4_17 rfl ?_
  refine lv_ldcw (v := 858993459) hx hb hown (hts (.constant RJ6 266 (858993459)) (by decide +kernel)) dJ6_bitCount_0f7a4_18 ?_
  refine lv_iand hx hb dJ6_bitCount_0f7a4_21 ?_
  refine lv_iadd hx hb dJ6_bitCount_0f7a4_22 ?_
  refine lv_istore_n (lv' := [(0, .int (((a - ((bsh a 1) &&& 1431655765)) &&& 858993459) + ((bsh (a - ((bsh a 1) &&& 1431655765)) 2) &&& 858993459)))]) hx hb dJ6_bitCount_0f7a4_23 rfl hl (by decide) rfl (fun ls hl => ?_)
  refine lv_iload_n hx hb dJ6_bitCount_0f7a4_24 rfl (lv_at hl 0 rfl) ?_
  refine lv_iload_n hx hb dJ6_bitCount_0f7a4_25 rfl (lv_at hl 0 rfl) ?_
  refine lv_iconst (v := 4) hx hb dJ6_bitCount_0f7a4_26 (by decide) ?_
  refine lv_iushr (v := bsh (((a - ((bsh a 1) &&& 1431655765)) &&& 858993459) + ((bsh (a - ((bsh a 1) &&& 1431655765)) 2) &&& 858993459)) 4) hx hb dJ6_bitCount_0f7a4_27 rfl ?_
  refine lv_iadd hx hb dJ6_bitCount_0f7a4_28 ?_
  refine lv_ldcw (v := 252645135) hx hb hown (hts (.constant RJ6 267 (252645135)) (by decide +kernel)) dJ6_bitCount_0f7a4_29 ?_
  refine lv_iand hx hb dJ6_bitCount_0f7a4_32 ?_
  refine lv_istore_n (lv' := [(0, .int (((((a - ((bsh a 1) &&& 1431655765)) &&& 858993459) + ((bsh (a - ((bsh a 1) &&& 1431655765)) 2) &&& 858993459)) + (bsh (((a - ((bsh a 1) &&& 1431655765)) &&& 858993459) + ((bsh (a - ((bsh a 1) &&& 1431655765)) 2) &&& 858993459)) 4)) &&& 252645135))]) hx hb dJ6_bitCount_0f7a4_33 rfl hl (by decide) rfl (fun ls hl => ?_)
  refine lv_iload_n hx hb dJ6_bitCount_0f7a4_34 rfl (lv_at hl 0 rfl) ?_
  refine lv_iload_n hx hb dJ6_bitCount_0f7a4_35 rfl (lv_at hl 0 rfl) ?_
  refine lv_bipush (v := 8) hx hb dJ6_bitCount_0f7a4_36 (by decide) ?_
  refine lv_iushr (v := bsh (((((a - ((bsh a 1) &&& 1431655765)) &&& 858993459) + ((bsh (a - ((bsh a 1) &&& 1431655765)) 2) &&& 858993459)) + (bsh (((a - ((bsh a 1) &&& 1431655765)) &&& 858993459) + ((bsh (a - ((bsh a 1) &&& 1431655765)) 2) &&& 858993459)) 4)) &&& 252645135) 8) hx hb dJ6_bitCount_0f7a4_38 rfl ?_
  refine lv_iadd hx hb dJ6_bitCount_0f7a4_39 ?_
  refine lv_istore_n (lv' := [(0, .int ((((((a - ((bsh a 1) &&& 1431655765)) &&& 858993459) + ((bsh (a - ((bsh a 1) &&& 1431655765)) 2) &&& 858993459)) + (bsh (((a - ((bsh a 1) &&& 1431655765)) &&& 858993459) + ((bsh (a - ((bsh a 1) &&& 1431655765)) 2) &&& 858993459)) 4)) &&& 252645135) + (bsh (((((a - ((bsh a 1) &&& 1431655765)) &&& 858993459) + ((bsh (a - ((bsh a 1) &&& 1431655765)) 2) &&& 858993459)) + (bsh (((a - ((bsh a 1) &&& 1431655765)) &&& 858993459) + ((bsh (a - ((bsh a 1) &&& 1431655765)) 2) &&& 858993459)) 4)) &&& 252645135) 8)))]) hx hb dJ6_bitCount_0f7a4_40 rfl hl (by decide) rfl (fun ls hl => ?_)
  refine lv_iload_n hx hb dJ6_bitCount_0f7a4_41 rfl (lv_at hl 0 rfl) ?_
  refine lv_iload_n hx hb dJ6_bitCount_0f7a4_42 rfl (lv_at hl 0 rfl) ?_
  refine lv_bipush (v := 16) hx hb dJ6_bitCount_0f7a4_43 (by decide) ?_
  refine lv_iushr (v := bsh ((((((a - ((bsh a 1) &&& 1431655765)) &&& 858993459) + ((bsh (a - ((bsh a 1) &&& 1431655765)) 2) &&& 858993459)) + (bsh (((a - ((bsh a 1) &&& 1431655765)) &&& 858993459) + ((bsh (a - ((bsh a 1) &&& 1431655765)) 2) &&& 858993459)) 4)) &&& 252645135) + (bsh (((((a - ((bsh a 1) &&& 1431655765)) &&& 858993459) + ((bsh (a - ((bsh a 1) &&& 1431655765)) 2) &&& 858993459)) + (bsh (((a - ((bsh a 1) &&& 1431655765)) &&& 858993459) + ((bsh (a - ((bsh a 1) &&& 1431655765)) 2) &&& 858993459)) 4)) &&& 252645135) 8)) 16) hx hb dJ6_bitCount_0f7a4_45 rfl ?_
  refine lv_iadd hx hb dJ6_bitCount_0f7a4_46 ?_
  refine lv_istore_n (lv' := [(0, .int (((((((a - ((bsh a 1) &&& 1431655765)) &&& 858993459) + ((bsh (a - ((bsh a 1) &&& 1431655765)) 2) &&& 858993459)) + (bsh (((a - ((bsh a 1) &&& 1431655765)) &&& 858993459) + ((bsh (a - ((bsh a 1) &&& 1431655765)) 2) &&& 858993459)) 4)) &&& 252645135) + (bsh (((((a - ((bsh a 1) &&& 1431655765)) &&& 858993459) + ((bsh (a - ((bsh a 1) &&& 1431655765)) 2) &&& 858993459)) + (bsh (((a - ((bsh a 1) &&& 1431655765)) &&& 858993459) + ((bsh (a - ((bsh a 1) &&& 1431655765)) 2) &&& 858993459)) 4)) &&& 252645135) 8)) + (bsh ((((((a - ((bsh a 1) &&& 1431655765)) &&& 858993459) + ((bsh (a - ((bsh a 1) &&& 1431655765)) 2) &&& 858993459)) + (bsh (((a - ((bsh a 1) &&& 1431655765)) &&& 858993459) + ((bsh (a - ((bsh a 1) &&& 1431655765)) 2) &&& 858993459)) 4)) &&& 252645135) + (bsh (((((a - ((bsh a 1) &&& 1431655765)) &&& 858993459) + ((bsh (a - ((bsh a 1) &&& 1431655765)) 2) &&& 858993459)) + (bsh (((a - ((bsh a 1) &&& 1431655765)) &&& 858993459) + ((bsh (a - ((bsh a 1) &&& 1431655765)) 2) &&& 858993459)) 4)) &&& 252645135) 8)) 16)))]) hx hb dJ6_bitCount_0f7a4_47 rfl hl (by decide) rfl (fun ls hl => ?_)
  refine lv_iload_n hx hb dJ6_bitCount_0f7a4_48 rfl (lv_at hl 0 rfl) ?_
  refine lv_bipush (v := 63) hx hb dJ6_bitCount_0f7a4_49 (by decide) ?_
  refine lv_iand hx hb dJ6_bitCount_0f7a4_51 ?_
  exact g_iret F hr hlk hH rfl rfl dJ6_bitCount_0f7a4_52

set_option maxHeartbeats 4000000 in
set_option maxRecDepth 100000 in
theorem c_X1_meanOf (l : Launch) (E : Ev) (hE : EO E) (v : Mem) (i : Nat) (a : Int32) (hi : i < 3) : Ci l yX1_meanOf wsX1_meanOf ({ frames := 3, cells := 0, slots := 0, locals := 64 } : Room) E [.ref (eAd E (5 + i)), .int a] v (lmean E v i a) v := by
  refine Ci.of (cc := cX1_meanOf) (maxL := 4) (ret := (some .int)) (own := RX1) (by decide) rfl rfl (Nat.le_of_ble_eq_true rfl) ?_
  intro p e s m below meth c F hr hlk ls hl hH
  obtain ⟨hx, hb, hml, hown, hts⟩ := id F.1
  have hl : lv_has ls 4 [(0, .ref (eAd E (5 + i))), (1, .int a)] := hl
  have inJx4a65c : ∀ w ∈ wsJx4a65c0, w ∈ wsX1_meanOf := fun w h => List.mem_cons_of_mem _ (List.mem_append_left _ (List.mem_append_right _ h))
  have inX0 : ∀ w ∈ wsX00, w ∈ wsX1_meanOf := fun w h => List.mem_cons_of_mem _ (List.mem_append_right _ h)
  have inX1 : ∀ w ∈ wsX10, w ∈ wsX1_meanOf := fun w h => List.mem_cons_of_mem _ (List.mem_append_left _ (List.mem_append_left _ (List.mem_append_right _ h)))
  have hnb := hE.2.2.2.2.1 i (by omega)
  refine lv_iconst (v := 0) hx hb dX1_meanOf_0 (by decide) ?_
  refine lv_istore_n (lv' := [(2, .int 0), (0, .ref (eAd E (5 + i))), (1, .int a)]) hx hb dX1_meanOf_1 rfl hl (by decide) rfl (fun ls hl => ?_)
  refine lv_iconst (v := 0) hx hb dX1_meanOf_2 (by decide) ?_
  refine lv_istore_n (lv' := [(3, .int 0), (2, .int 0), (0, .ref (eAd E (5 + i))), (1, .int a)]) hx hb dX1_meanOf_3 rfl hl (by decide) rfl (fun ls hl => ?_)
  have loop4 : ∀ (n t : Nat), t + n = eNb E i → ∀ (H : Heap) (locs : List Loc) (ls : Array Slot), HS E s.heap v H locs → lv_has ls 4 [(0, .ref (eAd E (5 + i))), (1, .int a), (2, .int (lms E v i a t)), (3, .int (nI t))] → W p l e ({ frames := 3, cells := 0, slots := 0, locals := 64 } : Room) s m ([.ref (eAd E (5 + i)), .int a] : List Value).toArray below meth c H locs 0 0 (Zi below E ([.ref (eAd E (5 + i)), .int a] : List Value).toArray s (lmean E v i a) v) (F0 m 4 ls []) := by
    intro n
    induction n with
    | zero =>
      intro t ht H locs ls hH hl
      obtain rfl : eNb E i = t := by omega
      refine lv_iload_n hx hb dX1_meanOf_4 rfl (lv_at hl 3 rfl) ?_
      refine lv_aload_n hx hb dX1_meanOf_5 rfl (lv_at hl 0 rfl) ?_
      refine g_get (x := .ref (eAd E (8 + i))) F hH inX1 (hE.1 _ (by have := hi; omega)) (cq_ld E _ hi) rfl 2 (by decide) (hts (.fieldLink RX1 22 "DryingKiln$Load" "boards" "Ljava/util/ArrayList;") (by decide +kernel)) (fun _ h => h) rfl dX1_meanOf_6 ?_
      refine g_vi (As := []) F hH (c_Jx4a65c_size_8abf5 l E hE v i (by first | assumption | omega | decide)) (cwV 0 hts gX1_meanOf_Jx4a65c_size_8abf5 rfl rfl rfl (by decide +kernel) ⟨Nat.le_of_ble_eq_true rfl, Nat.le_of_ble_eq_true rfl⟩) (hE.1 _ (by have := hi; omega)) (cq_li E _ hi) rfl rfl hl.1 [.int (nI (eNb E i))] rfl (Nat.le_of_ble_eq_true rfl) dX1_meanOf_9 ⟨Nat.zero_le _, Nat.zero_le _⟩ (fun H locs hH => ?_)
      refine lv_icmp_ge (tgt := 47) hx hb dX1_meanOf_12 (by decide) (fun c1 => ?_) (fun c1 => ?_)
      · skip
        refine lv_iload_n hx hb dX1_meanOf_47 rfl (lv_at hl 2 rfl) ?_
        refine lv_iload_n hx hb dX1_meanOf_48 rfl (lv_at hl 1 rfl) ?_
        refine g_si (As := [.int a]) F hH (c_J6_bitCount_0f7a4 l E hE v a) (va_cwS 1 hts gX1_meanOf_J6_bitCount_0f7a4 rfl rfl rfl (by decide +kernel) ⟨Nat.le_of_ble_eq_true rfl, Nat.le_of_ble_eq_true rfl⟩) rfl hl.1 [.int (lms E v i a (eNb E i))] rfl (Nat.le_of_ble_eq_true rfl) dX1_meanOf_49 ⟨Nat.zero_le _, Nat.zero_le _⟩ (fun H locs hH => ?_)
        refine g_sni (As := [.int (lms E v i a (eNb E i)), .int (bitc a)]) F hH (c_X4_quotient l E hE v (lms E v i a (eNb E i)) (bitc a)) ⟨va_cnB 2 hts gX1_meanOf_X4_quotient_n69 rfl rfl rfl F.2.2.2.1.2.1 (hts (.initialized RX4) (by decide +kernel)) (by decide +kernel) ⟨Nat.le_of_ble_eq_true rfl, Nat.le_of_ble_eq_true rfl⟩, (hts (.static yX4_quotient) (by decide +kernel)), trivial⟩ rfl hl.1 [] rfl (Nat.le_of_ble_eq_true rfl) dX1_meanOf_52 ⟨Nat.zero_le _, Nat.zero_le _⟩ (fun H locs hH => ?_)
        exact g_iret F hr hlk hH rfl rfl dX1_meanOf_55
      · skip
        exact absurd (nI_le (Nat.le_refl _) (by omega)) c1
    | succ n ih =>
      intro t ht H locs ls hH hl
      have htN : t < eNb E i := by omega
      refine lv_iload_n hx hb dX1_meanOf_4 rfl (lv_at hl 3 rfl) ?_
      refine lv_aload_n hx hb dX1_meanOf_5 rfl (lv_at hl 0 rfl) ?_
      refine g_get (x := .ref (eAd E (8 + i))) F hH inX1 (hE.1 _ (by have := hi; omega)) (cq_ld E _ hi) rfl 2 (by decide) (hts (.fieldLink RX1 22 "DryingKiln$Load" "boards" "Ljava/util/ArrayList;") (by decide +kernel)) (fun _ h => h) rfl dX1_meanOf_6 ?_
      refine g_vi (As := []) F hH (c_Jx4a65c_size_8abf5 l E hE v i (by first | assumption | omega | decide)) (cwV 0 hts gX1_meanOf_Jx4a65c_size_8abf5 rfl rfl rfl (by decide +kernel) ⟨Nat.le_of_ble_eq_true rfl, Nat.le_of_ble_eq_true rfl⟩) (hE.1 _ (by have := hi; omega)) (cq_li E _ hi) rfl rfl hl.1 [.int (nI t)] rfl (Nat.le_of_ble_eq_true rfl) dX1_meanOf_9 ⟨Nat.zero_le _, Nat.zero_le _⟩ (fun H locs hH => ?_)
      refine lv_icmp_ge (tgt := 47) hx hb dX1_meanOf_12 (by decide) (fun c2 => ?_) (fun c2 => ?_)
      · skip
        exact absurd c2 (nI_ge htN (by omega))
      · skip
        refine lv_iload_n hx hb dX1_meanOf_15 rfl (lv_at hl 1 rfl) ?_
        refine lv_iload_n hx hb dX1_meanOf_16 rfl (lv_at hl 3 rfl) ?_
        refine lv_ishr hx hb dX1_meanOf_17 ?_
        refine lv_iconst (v := 1) hx hb dX1_meanOf_18 (by decide) ?_
        refine lv_iand hx hb dX1_meanOf_19 ?_
        refine lv_iconst (v := 1) hx hb dX1_meanOf_20 (by decide) ?_
        refine lv_icmp_ne (tgt := 41) hx hb dX1_meanOf_21 (by decide) (fun c3 => ?_) (fun c3 => ?_)
        · skip
          refine lv_iinc (v := nI (t + 1)) (lv' := [(3, .int (nI (t + 1))), (0, .ref (eAd E (5 + i))), (1, .int a), (2, .int (lms E v i a t))]) hx hb dX1_meanOf_41 hl (k := 3) rfl (nI_1 _) (by decide) rfl (fun ls hl => ?_)
          refine lv_goto (tgt := 4) hx hb dX1_meanOf_44 (by decide) ?_
          exact ih (t + 1) (by omega) _ _ ls (by first | exact hH | (simp only [lms, c2, c3, if_true, if_false, ↓reduceIte]; exact hH)) (by first | exact lv_sub hl [1, 2, 3, 0] rfl | (have h := lv_sub hl [1, 2, 3, 0] rfl; simp only [lms, c2, c3, if_true, if_false, ↓reduceIte]; exact h))
        · skip
          refine lv_iload_n hx hb dX1_meanOf_24 rfl (lv_at hl 2 rfl) ?_
          refine lv_aload_n hx hb dX1_meanOf_25 rfl (lv_at hl 0 rfl) ?_
          refine g_get (x := .ref (eAd E (8 + i))) F hH inX1 (hE.1 _ (by have := hi; omega)) (cq_ld E _ hi) rfl 2 (by decide) (hts (.fieldLink RX1 22 "DryingKiln$Load" "boards" "Ljava/util/ArrayList;") (by decide +kernel)) (fun _ h => h) rfl dX1_meanOf_26 ?_
          refine lv_iload_n hx hb dX1_meanOf_29 rfl (lv_at hl 3 rfl) ?_
          refine g_vr (As := [.int (nI t)]) F hH (c_Jx4a65c_get_915e3 l E hE v i t (by first | assumption | omega | decide) (by first | assumption | omega | decide)) (cwV 1 hts gX1_meanOf_Jx4a65c_get_915e3 rfl rfl rfl (by decide +kernel) ⟨Nat.le_of_ble_eq_true rfl, Nat.le_of_ble_eq_true rfl⟩) (hE.1 _ (by have := hi; omega)) (cq_li E _ hi) rfl rfl hl.1 [.int (lms E v i a t)] rfl (Nat.le_of_ble_eq_true rfl) dX1_meanOf_30 ⟨Nat.zero_le _, Nat.zero_le _⟩ (fun H locs hH => ?_)
          refine g_cast F hH (hE.2.2.2.1 i t hi (by omega)).1 (cq_bo E _ (by omega)) (by rfl) (hts (.classLink RX1 34 "DryingKiln$Board") (by decide +kernel)) dX1_meanOf_33 ?_
          refine g_vi (As := []) F hH (c_X0_average l E hE v i t (by first | assumption | omega | decide) (by first | assumption | omega | decide)) (cwV 0 hts gX1_meanOf_X0_average rfl rfl rfl (by decide +kernel) ⟨Nat.le_of_ble_eq_true rfl, Nat.le_of_ble_eq_true rfl⟩) (hE.2.2.2.1 i t hi (by omega)).1 (cq_bo E _ (by omega)) rfl rfl hl.1 [.int (lms E v i a t)] rfl (Nat.le_of_ble_eq_true rfl) dX1_meanOf_36 ⟨Nat.zero_le _, Nat.zero_le _⟩ (fun H locs hH => ?_)
          refine lv_iadd hx hb dX1_meanOf_39 ?_
          refine lv_istore_n (lv' := [(2, .int ((lms E v i a t) + (lavg E v i t))), (0, .ref (eAd E (5 + i))), (1, .int a), (3, .int (nI t))]) hx hb dX1_meanOf_40 rfl hl (by decide) rfl (fun ls hl => ?_)
          refine lv_iinc (v := nI (t + 1)) (lv' := [(3, .int (nI (t + 1))), (2, .int ((lms E v i a t) + (lavg E v i t))), (0, .ref (eAd E (5 + i))), (1, .int a)]) hx hb dX1_meanOf_41 hl (k := 3) rfl (nI_1 _) (by decide) rfl (fun ls hl => ?_)
          refine lv_goto (tgt := 4) hx hb dX1_meanOf_44 (by decide) ?_
          exact ih (t + 1) (by omega) _ _ ls (by first | exact hH | (simp only [lms, c2, c3, if_true, if_false, ↓reduceIte]; exact hH)) (by first | exact lv_sub hl [2, 3, 1, 0] rfl | (have h := lv_sub hl [2, 3, 1, 0] rfl; simp only [lms, c2, c3, if_true, if_false, ↓reduceIte]; exact h))
  exact loop4 (eNb E i) 0 (Nat.zero_add _) _ _ ls hH (lv_sub hl [2, 3, 1, 0] rfl)

set_option maxHeartbeats 4000000 in
set_option maxRecDepth 100000 in
theorem c_X1_countDryingHour (l : Launch) (E : Ev) (hE : EO E) (v : Mem) (i : Nat) (q : Int32) (hi : i < 3) : Cv l yX1_countDryingHour wsX1_countDryingHour ({ frames := 0, cells := 0, slots := 0, locals := 0 } : Room) E [.ref (eAd E (5 + i)), .int q] v (lcnt i q v) := by
  refine Cv.of (cc := cX1_countDryingHour) (maxL := 2) (ret := none) (own := RX1) (by decide) rfl rfl (Nat.le_of_ble_eq_true rfl) ?_
  intro p e s m below meth c F hr hlk ls hl hH
  obtain ⟨hx, hb, hml, hown, hts⟩ := id F.1
  have hl : lv_has ls 2 [(0, .ref (eAd E (5 + i))), (1, .int q)] := hl
  have inX1 : ∀ w ∈ wsX10, w ∈ wsX1_countDryingHour := fun w h => List.mem_cons_of_mem _ (List.mem_append_right _ h)
  refine lv_aload_n hx hb dX1_countDryingHour_0 rfl (lv_at hl 0 rfl) ?_
  refine lv_dup hx hb dX1_countDryingHour_1 rfl ?_
  refine g_get (x := .int (v (5 + i) 1)) F hH inX1 (hE.1 _ (by have := hi; omega)) (cq_ld E _ hi) rfl 1 (by decide) (hts (.fieldLink RX1 15 "DryingKiln$Load" "dryingHours" "I") (by decide +kernel)) (fun _ h => h) rfl dX1_countDryingHour_2 ?_
  refine lv_iconst (v := 1) hx hb dX1_countDryingHour_5 (by decide) ?_
  refine lv_iadd hx hb dX1_countDryingHour_6 ?_
  refine g_put (ty := .int) (x := (v (5 + i) 1) + 1) F hH inX1 tyX1 tyX1_ok nmX1 (hE.1 _ (by have := hi; omega)) (cq_ld E _ hi) rfl 1 (by decide) (hts (.fieldLink RX1 15 "DryingKiln$Load" "dryingHours" "I") (by decide +kernel)) (fun _ h => h) rfl (by decide +kernel) rfl rfl (Nat.le_of_ble_eq_true rfl) (cq_ld E _ hi) dX1_countDryingHour_7 (fun H locs hH => ?_)
  refine lv_iload_n hx hb dX1_countDryingHour_10 rfl (lv_at hl 1 rfl) ?_
  refine lv_if_le (tgt := 39) hx hb dX1_countDryingHour_11 (by decide) (fun c1 => ?_) (fun c1 => ?_)
  · skip
    exact g_vret F hr hlk hH (by first | rfl | (simp only [lcnt, ntg, c1, if_true, if_false, ↓reduceIte]; done) | (simp only [lcnt, ntg, c1, if_true, if_false, ↓reduceIte]; rfl)) dX1_countDryingHour_39
  · skip
    refine lv_aload_n hx hb dX1_countDryingHour_14 rfl (lv_at hl 0 rfl) ?_
    refine g_get (x := .int ((st v (5 + i) 1 ((v (5 + i) 1) + 1)) (5 + i) 1)) F hH inX1 (hE.1 _ (by have := hi; omega)) (cq_ld E _ hi) rfl 1 (by decide) (hts (.fieldLink RX1 15 "DryingKiln$Load" "dryingHours" "I") (by decide +kernel)) (fun _ h => h) rfl dX1_countDryingHour_15 ?_
    rw [show (st v (5 + i) 1 ((v (5 + i) 1) + 1)) (5 + i) 1 = (v (5 + i) 1) + 1 by rw [st_at]]
    refine lv_iload_n hx hb dX1_countDryingHour_18 rfl (lv_at hl 1 rfl) ?_
    refine lv_irem hx hb dX1_countDryingHour_19 (fun h => c1 (by rw [h]; decide)) ?_
    refine lv_if_ne (tgt := 39) hx hb dX1_countDryingHour_20 (by decide) (fun c2 => ?_) (fun c2 => ?_)
    · skip
      exact g_vret F hr hlk hH (by first | rfl | (simp only [lcnt, ntg, c1, c2, if_true, if_false, ↓reduceIte]; done) | (simp only [lcnt, ntg, c1, c2, if_true, if_false, ↓reduceIte]; rfl)) dX1_countDryingHour_39
    · skip
      refine lv_aload_n hx hb dX1_countDryingHour_23 rfl (lv_at hl 0 rfl) ?_
      refine lv_aload_n hx hb dX1_countDryingHour_24 rfl (lv_at hl 0 rfl) ?_
      refine g_get (x := .int ((st v (5 + i) 1 ((v (5 + i) 1) + 1)) (5 + i) 0)) F hH inX1 (hE.1 _ (by have := hi; omega)) (cq_ld E _ hi) rfl 0 (by decide) (hts (.fieldLink RX1 9 "DryingKiln$Load" "reversed" "Z") (by decide +kernel)) (fun _ h => h) rfl dX1_countDryingHour_25 ?_
      rw [show (st v (5 + i) 1 ((v (5 + i) 1) + 1)) (5 + i) 0 = v (5 + i) 0 by rw [st_nj _ _ _ (by decide)]]
      refine lv_if_ne (tgt := 35) hx hb dX1_countDryingHour_28 (by decide) (fun c3 => ?_) (fun c3 => ?_)
      · skip
        refine lv_iconst (v := 0) hx hb dX1_countDryingHour_35 (by decide) ?_
        refine g_put (ty := .boolean) (x := 0) F hH inX1 tyX1 tyX1_ok nmX1 (hE.1 _ (by have := hi; omega)) (cq_ld E _ hi) rfl 0 (by decide) (hts (.fieldLink RX1 9 "DryingKiln$Load" "reversed" "Z") (by decide +kernel)) (fun _ h => h) rfl (by decide +kernel) rfl rfl (Nat.le_of_ble_eq_true rfl) (cq_ld E _ hi) dX1_countDryingHour_36 (fun H locs hH => ?_)
        exact g_vret F hr hlk hH (by first | rfl | (simp only [lcnt, ntg, c1, c2, c3, if_true, if_false, ↓reduceIte]; done) | (simp only [lcnt, ntg, c1, c2, c3, if_true, if_false, ↓reduceIte]; rfl)) dX1_countDryingHour_39
      · skip
        refine lv_iconst (v := 1) hx hb dX1_countDryingHour_31 (by decide) ?_
        refine lv_goto (tgt := 36) hx hb dX1_countDryingHour_32 (by decide) ?_
        refine g_put (ty := .boolean) (x := 1) F hH inX1 tyX1 tyX1_ok nmX1 (hE.1 _ (by have := hi; omega)) (cq_ld E _ hi) rfl 0 (by decide) (hts (.fieldLink RX1 9 "DryingKiln$Load" "reversed" "Z") (by decide +kernel)) (fun _ h => h) rfl (by decide +kernel) rfl rfl (Nat.le_of_ble_eq_true rfl) (cq_ld E _ hi) dX1_countDryingHour_36 (fun H locs hH => ?_)
        exact g_vret F hr hlk hH (by first | rfl | (simp only [lcnt, ntg, c1, c2, c3, if_true, if_false, ↓reduceIte]; done) | (simp only [lcnt, ntg, c1, c2, c3, if_true, if_false, ↓reduceIte]; rfl)) dX1_countDryingHour_39

set_option maxHeartbeats 4000000 in
set_option maxRecDepth 100000 in
theorem c_X1_passDryingHour (l : Launch) (E : Ev) (hE : EO E) (v : Mem) (i : Nat) (a : Int32) (hi : i < 3) : Ci l yX1_passDryingHour wsX1_passDryingHour ({ frames := 3, cells := 0, slots := 0, locals := 64 } : Room) E [.ref (eAd E (5 + i)), .int a, .ref (eAd E 1)] v (lgiv E i a v) (ldry E i a v) := by
  refine Ci.of (cc := cX1_passDryingHour) (maxL := 7) (ret := (some .int)) (own := RX1) (by decide) rfl rfl (Nat.le_of_ble_eq_true rfl) ?_
  intro p e s m below meth c F hr hlk ls hl hH
  obtain ⟨hx, hb, hml, hown, hts⟩ := id F.1
  have hl : lv_has ls 7 [(0, .ref (eAd E (5 + i))), (1, .int a), (2, .ref (eAd E 1))] := hl
  have inJx4a65c : ∀ w ∈ wsJx4a65c0, w ∈ wsX1_passDryingHour := fun w h => List.mem_cons_of_mem _ (List.mem_append_left _ (List.mem_append_right _ h))
  have inX0 : ∀ w ∈ wsX00, w ∈ wsX1_passDryingHour := fun w h => List.mem_cons_of_mem _ (List.mem_append_right _ h)
  have inX1 : ∀ w ∈ wsX10, w ∈ wsX1_passDryingHour := fun w h => List.mem_cons_of_mem _ (List.mem_append_left _ (List.mem_append_left _ (List.mem_append_left _ (List.mem_append_right _ h))))
  have inX3 : ∀ w ∈ wsX30, w ∈ wsX1_passDryingHour := fun w h => List.mem_cons_of_mem _ (List.mem_append_left _ (List.mem_append_left _ (List.mem_append_right _ h)))
  have hnb := hE.2.2.2.2.1 i (by omega)
  refine lv_iconst (v := 0) hx hb dX1_passDryingHour_0 (by decide) ?_
  refine lv_istore_n (lv' := [(3, .int 0), (0, .ref (eAd E (5 + i))), (1, .int a), (2, .ref (eAd E 1))]) hx hb dX1_passDryingHour_1 rfl hl (by decide) rfl (fun ls hl => ?_)
  refine lv_iconst (v := 0) hx hb dX1_passDryingHour_2 (by decide) ?_
  refine lv_istore (lv' := [(4, .int 0), (3, .int 0), (0, .ref (eAd E (5 + i))), (1, .int a), (2, .ref (eAd E 1))]) hx hb dX1_passDryingHour_3 hl (by decide) rfl (fun ls hl => ?_)
  have loop5 : ∀ (n t : Nat), t + n = eNb E i → ∀ (H : Heap) (locs : List Loc) (ls : Array Slot), HS E s.heap ((ldp E i a v t).1) H locs → lv_has ls 7 [(0, .ref (eAd E (5 + i))), (1, .int a), (2, .ref (eAd E 1)), (3, .int ((ldp E i a v t).2)), (4, .int (nI t))] → W p l e ({ frames := 3, cells := 0, slots := 0, locals := 64 } : Room) s m ([.ref (eAd E (5 + i)), .int a, .ref (eAd E 1)] : List Value).toArray below meth c H locs 0 0 (Zi below E ([.ref (eAd E (5 + i)), .int a, .ref (eAd E 1)] : List Value).toArray s (lgiv E i a v) (ldry E i a v)) (F0 m 5 ls []) := by
    intro n
    induction n with
    | zero =>
      intro t ht H locs ls hH hl
      obtain rfl : eNb E i = t := by omega
      refine lv_iload hx hb dX1_passDryingHour_5 (lv_at hl 4 rfl) ?_
      refine lv_aload_n hx hb dX1_passDryingHour_7 rfl (lv_at hl 0 rfl) ?_
      refine g_get (x := .ref (eAd E (8 + i))) F hH inX1 (hE.1 _ (by have := hi; omega)) (cq_ld E _ hi) rfl 2 (by decide) (hts (.fieldLink RX1 22 "DryingKiln$Load" "boards" "Ljava/util/ArrayList;") (by decide +kernel)) (fun _ h => h) rfl dX1_passDryingHour_8 ?_
      refine g_vi (As := []) F hH (c_Jx4a65c_size_8abf5 l E hE ((ldp E i a v (eNb E i)).1) i (by first | assumption | omega | decide)) (cwV 0 hts gX1_passDryingHour_Jx4a65c_size_8abf5 rfl rfl rfl (by decide +kernel) ⟨Nat.le_of_ble_eq_true rfl, Nat.le_of_ble_eq_true rfl⟩) (hE.1 _ (by have := hi; omega)) (cq_li E _ hi) rfl rfl hl.1 [.int (nI (eNb E i))] rfl (Nat.le_of_ble_eq_true rfl) dX1_passDryingHour_11 ⟨Nat.zero_le _, Nat.zero_le _⟩ (fun H locs hH => ?_)
      refine lv_icmp_ge (tgt := 86) hx hb dX1_passDryingHour_14 (by decide) (fun c1 => ?_) (fun c1 => ?_)
      · skip
        refine lv_aload_n hx hb dX1_passDryingHour_86 rfl (lv_at hl 0 rfl) ?_
        refine lv_aload_n hx hb dX1_passDryingHour_87 rfl (lv_at hl 2 rfl) ?_
        refine g_get (x := .int (((ldp E i a v (eNb E i)).1) 1 5)) F hH inX3 (hE.1 1 (by decide)) (cq_set E _) rfl 5 (by decide) (hts (.fieldLink RX1 81 "DryingKiln$Settings" "reversalPeriod" "I") (by decide +kernel)) (fun _ h => h) rfl dX1_passDryingHour_88 ?_
        refine g_vv (As := [.int (((ldp E i a v (eNb E i)).1) 1 5)]) F hH (c_X1_countDryingHour l E hE ((ldp E i a v (eNb E i)).1) i (((ldp E i a v (eNb E i)).1) 1 5) (by first | assumption | omega | decide)) (cwV 1 hts gX1_passDryingHour_X1_countDryingHour rfl rfl rfl (by decide +kernel) ⟨Nat.le_of_ble_eq_true rfl, Nat.le_of_ble_eq_true rfl⟩) (hE.1 _ (by have := hi; omega)) (cq_ld E _ hi) rfl rfl hl.1 [] rfl (Nat.le_of_ble_eq_true rfl) dX1_passDryingHour_91 ⟨Nat.zero_le _, Nat.zero_le _⟩ (fun H locs hH => ?_)
        refine lv_iload_n hx hb dX1_passDryingHour_94 rfl (lv_at hl 3 rfl) ?_
        exact g_iret F hr hlk hH rfl rfl dX1_passDryingHour_95
      · skip
        exact absurd (nI_le (Nat.le_refl _) (by omega)) c1
    | succ n ih =>
      intro t ht H locs ls hH hl
      have htN : t < eNb E i := by omega
      refine lv_iload hx hb dX1_passDryingHour_5 (lv_at hl 4 rfl) ?_
      refine lv_aload_n hx hb dX1_passDryingHour_7 rfl (lv_at hl 0 rfl) ?_
      refine g_get (x := .ref (eAd E (8 + i))) F hH inX1 (hE.1 _ (by have := hi; omega)) (cq_ld E _ hi) rfl 2 (by decide) (hts (.fieldLink RX1 22 "DryingKiln$Load" "boards" "Ljava/util/ArrayList;") (by decide +kernel)) (fun _ h => h) rfl dX1_passDryingHour_8 ?_
      refine g_vi (As := []) F hH (c_Jx4a65c_size_8abf5 l E hE ((ldp E i a v t).1) i (by first | assumption | omega | decide)) (cwV 0 hts gX1_passDryingHour_Jx4a65c_size_8abf5 rfl rfl rfl (by decide +kernel) ⟨Nat.le_of_ble_eq_true rfl, Nat.le_of_ble_eq_true rfl⟩) (hE.1 _ (by have := hi; omega)) (cq_li E _ hi) rfl rfl hl.1 [.int (nI t)] rfl (Nat.le_of_ble_eq_true rfl) dX1_passDryingHour_11 ⟨Nat.zero_le _, Nat.zero_le _⟩ (fun H locs hH => ?_)
      refine lv_icmp_ge (tgt := 86) hx hb dX1_passDryingHour_14 (by decide) (fun c2 => ?_) (fun c2 => ?_)
      · skip
        exact absurd c2 (nI_ge htN (by omega))
      · skip
        refine lv_aload_n hx hb dX1_passDryingHour_17 rfl (lv_at hl 0 rfl) ?_
        refine g_get (x := .int (((ldp E i a v t).1) (5 + i) 0)) F hH inX1 (hE.1 _ (by have := hi; omega)) (cq_ld E _ hi) rfl 0 (by decide) (hts (.fieldLink RX1 9 "DryingKiln$Load" "reversed" "Z") (by decide +kernel)) (fun _ h => h) rfl dX1_passDryingHour_18 ?_
        refine lv_if_eq (tgt := 39) hx hb dX1_passDryingHour_21 (by decide) (fun c3 => ?_) (fun c3 => ?_)
        · skip
          refine lv_iload hx hb dX1_passDryingHour_39 (lv_at hl 4 rfl) ?_
          refine lv_istore (lv' := [(5, .int (nI t)), (0, .ref (eAd E (5 + i))), (1, .int a), (2, .ref (eAd E 1)), (3, .int ((ldp E i a v t).2)), (4, .int (nI t))]) hx hb dX1_passDryingHour_41 hl (by decide) rfl (fun ls hl => ?_)
          refine lv_iconst (v := 0) hx hb dX1_passDryingHour_43 (by decide) ?_
          refine lv_iload_n hx hb dX1_passDryingHour_44 rfl (lv_at hl 2 rfl) ?_
          refine lv_iload_n hx hb dX1_passDryingHour_45 rfl (lv_at hl 4 rfl) ?_
          refine lv_aload_n hx hb dX1_passDryingHour_46 rfl (lv_at hl 3 rfl) ?_
          refine g_get (x := .int (((ldp E i a v t).1) 1 2)) F hH inX3 (hE.1 1 (by decide)) (cq_set E _) rfl 2 (by decide) (hts (.fieldLink RX1 72 "DryingKiln$Settings" "capacity" "I") (by decide +kernel)) (fun _ h => h) rfl dX1_passDryingHour_47 ?_
          refine g_sni (As := [.int ((ldp E i a v t).2), .int (((ldp E i a v t).1) 1 2)]) F hH (c_X4_quotient l E hE ((ldp E i a v t).1) ((ldp E i a v t).2) (((ldp E i a v t).1) 1 2)) ⟨va_cnB 2 hts gX1_passDryingHour_X4_quotient_n69 rfl rfl rfl F.2.2.2.1.2.1 (hts (.initialized RX4) (by decide +kernel)) (by decide +kernel) ⟨Nat.le_of_ble_eq_true rfl, Nat.le_of_ble_eq_true rfl⟩, (hts (.static yX4_quotient) (by decide +kernel)), trivial⟩ rfl hl.1 [.int a, .int 0] rfl (Nat.le_of_ble_eq_true rfl) dX1_passDryingHour_50 ⟨Nat.zero_le _, Nat.zero_le _⟩ (fun H locs hH => ?_)
          refine lv_iadd hx hb dX1_passDryingHour_53 ?_
          refine va_mmax hx hb (by rw [hml]; exact hl.1.symm) hown (hts (.methodLink RX1 51 Lib.Math.max.name) (by decide +kernel)) (hts (.static Lib.Math.max.name) (by decide +kernel)) (hts (.initialized "java/lang/Math") (by decide +kernel)) (hts (.code Lib.Math.max.name Lib.Math.max.code 2 (some .int)) (by decide +kernel)) (Nat.le_of_ble_eq_true rfl) (Nat.le_of_ble_eq_true rfl) (Nat.zero_le _) (Nat.zero_le _) dX1_passDryingHour_54 ?_
          rw [← imx_eq 0 (a + (quo ((ldp E i a v t).2) (((ldp E i a v t).1) 1 2)))]
          refine lv_istore (lv' := [(6, .int (imx 0 (a + (quo ((ldp E i a v t).2) (((ldp E i a v t).1) 1 2))))), (5, .int (nI t)), (0, .ref (eAd E (5 + i))), (1, .int a), (2, .ref (eAd E 1)), (3, .int ((ldp E i a v t).2)), (4, .int (nI t))]) hx hb dX1_passDryingHour_57 hl (by decide) rfl (fun ls hl => ?_)
          refine lv_iload_n hx hb dX1_passDryingHour_59 rfl (lv_at hl 5 rfl) ?_
          refine lv_aload_n hx hb dX1_passDryingHour_60 rfl (lv_at hl 2 rfl) ?_
          refine g_get (x := .ref (eAd E (8 + i))) F hH inX1 (hE.1 _ (by have := hi; omega)) (cq_ld E _ hi) rfl 2 (by decide) (hts (.fieldLink RX1 22 "DryingKiln$Load" "boards" "Ljava/util/ArrayList;") (by decide +kernel)) (fun _ h => h) rfl dX1_passDryingHour_61 ?_
          refine lv_iload hx hb dX1_passDryingHour_64 (lv_at hl 1 rfl) ?_
          refine g_vr (As := [.int (nI t)]) F hH (c_Jx4a65c_get_915e3 l E hE ((ldp E i a v t).1) i t (by first | assumption | omega | decide) (by first | assumption | omega | decide)) (cwV 1 hts gX1_passDryingHour_Jx4a65c_get_915e3 rfl rfl rfl (by decide +kernel) ⟨Nat.le_of_ble_eq_true rfl, Nat.le_of_ble_eq_true rfl⟩) (hE.1 _ (by have := hi; omega)) (cq_li E _ hi) rfl rfl hl.1 [.int ((ldp E i a v t).2)] rfl (Nat.le_of_ble_eq_true rfl) dX1_passDryingHour_66 ⟨Nat.zero_le _, Nat.zero_le _⟩ (fun H locs hH => ?_)
          refine g_cast F hH (hE.2.2.2.1 i t hi (by omega)).1 (cq_bo E _ (by omega)) (by rfl) (hts (.classLink RX1 34 "DryingKiln$Board") (by decide +kernel)) dX1_passDryingHour_69 ?_
          refine lv_iload hx hb dX1_passDryingHour_72 (lv_at hl 0 rfl) ?_
          refine lv_aload_n hx hb dX1_passDryingHour_74 rfl (lv_at hl 4 rfl) ?_
          refine g_vi (As := [.int (imx 0 (a + (quo ((ldp E i a v t).2) (((ldp E i a v t).1) 1 2)))), .ref (eAd E 1)]) F hH (c_X0_passDryingHour l E hE ((ldp E i a v t).1) i t (imx 0 (a + (quo ((ldp E i a v t).2) (((ldp E i a v t).1) 1 2)))) (by first | assumption | omega | decide) (by first | assumption | omega | decide)) (cwV 2 hts gX1_passDryingHour_X0_passDryingHour rfl rfl rfl (by decide +kernel) ⟨Nat.le_of_ble_eq_true rfl, Nat.le_of_ble_eq_true rfl⟩) (hE.2.2.2.1 i t hi (by omega)).1 (cq_bo E _ (by omega)) rfl rfl hl.1 [.int ((ldp E i a v t).2)] rfl (Nat.le_of_ble_eq_true rfl) dX1_passDryingHour_75 ⟨Nat.zero_le _, Nat.zero_le _⟩ (fun H locs hH => ?_)
          refine lv_iadd hx hb dX1_passDryingHour_78 ?_
          refine lv_istore_n (lv' := [(3, .int (((ldp E i a v t).2) + (btop E i t (imx 0 (a + (quo ((ldp E i a v t).2) (((ldp E i a v t).1) 1 2)))) ((ldp E i a v t).1) + bbot E i t (imx 0 (a + (quo ((ldp E i a v t).2) (((ldp E i a v t).1) 1 2)))) ((ldp E i a v t).1)))), (6, .int (imx 0 (a + (quo ((ldp E i a v t).2) (((ldp E i a v t).1) 1 2))))), (5, .int (nI t)), (0, .ref (eAd E (5 + i))), (1, .int a), (2, .ref (eAd E 1)), (4, .int (nI t))]) hx hb dX1_passDryingHour_79 rfl hl (by decide) rfl (fun ls hl => ?_)
          refine lv_iinc (v := nI (t + 1)) (lv' := [(4, .int (nI (t + 1))), (3, .int (((ldp E i a v t).2) + (btop E i t (imx 0 (a + (quo ((ldp E i a v t).2) (((ldp E i a v t).1) 1 2)))) ((ldp E i a v t).1) + bbot E i t (imx 0 (a + (quo ((ldp E i a v t).2) (((ldp E i a v t).1) 1 2)))) ((ldp E i a v t).1)))), (6, .int (imx 0 (a + (quo ((ldp E i a v t).2) (((ldp E i a v t).1) 1 2))))), (5, .int (nI t)), (0, .ref (eAd E (5 + i))), (1, .int a), (2, .ref (eAd E 1))]) hx hb dX1_passDryingHour_80 hl (k := 6) rfl (nI_1 _) (by decide) rfl (fun ls hl => ?_)
          refine lv_goto (tgt := 5) hx hb dX1_passDryingHour_83 (by decide) ?_
          exact ih (t + 1) (by omega) _ _ ls (by first | exact hH | (simp only [ldp, lnum, lair, c2, c3, if_true, if_false, ↓reduceIte]; exact hH)) (by first | exact lv_sub hl [4, 5, 6, 1, 0] rfl | (have h := lv_sub hl [4, 5, 6, 1, 0] rfl; simp only [ldp, lnum, lair, c2, c3, if_true, if_false, ↓reduceIte]; exact h))
        · skip
          refine lv_aload_n hx hb dX1_passDryingHour_24 rfl (lv_at hl 0 rfl) ?_
          refine g_get (x := .ref (eAd E (8 + i))) F hH inX1 (hE.1 _ (by have := hi; omega)) (cq_ld E _ hi) rfl 2 (by decide) (hts (.fieldLink RX1 22 "DryingKiln$Load" "boards" "Ljava/util/ArrayList;") (by decide +kernel)) (fun _ h => h) rfl dX1_passDryingHour_25 ?_
          refine g_vi (As := []) F hH (c_Jx4a65c_size_8abf5 l E hE ((ldp E i a v t).1) i (by first | assumption | omega | decide)) (cwV 0 hts gX1_passDryingHour_Jx4a65c_size_8abf5 rfl rfl rfl (by decide +kernel) ⟨Nat.le_of_ble_eq_true rfl, Nat.le_of_ble_eq_true rfl⟩) (hE.1 _ (by have := hi; omega)) (cq_li E _ hi) rfl rfl hl.1 [] rfl (Nat.le_of_ble_eq_true rfl) dX1_passDryingHour_28 ⟨Nat.zero_le _, Nat.zero_le _⟩ (fun H locs hH => ?_)
          refine lv_iconst (v := 1) hx hb dX1_passDryingHour_31 (by decide) ?_
          refine lv_isub hx hb dX1_passDryingHour_32 ?_
          rw [show (nI (eNb E i)) - 1 = nI (eNb E i - 1) from nI_m1 (by omega)]
          refine lv_iload hx hb dX1_passDryingHour_33 (lv_at hl 4 rfl) ?_
          refine lv_isub hx hb dX1_passDryingHour_35 ?_
          rw [show (nI (eNb E i - 1)) - (nI t) = nI (eNb E i - 1 - t) from pk_sub (by omega)]
          refine lv_goto (tgt := 41) hx hb dX1_passDryingHour_36 (by decide) ?_
          refine lv_istore (lv' := [(5, .int (nI (eNb E i - 1 - t))), (0, .ref (eAd E (5 + i))), (1, .int a), (2, .ref (eAd E 1)), (3, .int ((ldp E i a v t).2)), (4, .int (nI t))]) hx hb dX1_passDryingHour_41 hl (by decide) rfl (fun ls hl => ?_)
          refine lv_iconst (v := 0) hx hb dX1_passDryingHour_43 (by decide) ?_
          refine lv_iload_n hx hb dX1_passDryingHour_44 rfl (lv_at hl 2 rfl) ?_
          refine lv_iload_n hx hb dX1_passDryingHour_45 rfl (lv_at hl 4 rfl) ?_
          refine lv_aload_n hx hb dX1_passDryingHour_46 rfl (lv_at hl 3 rfl) ?_
          refine g_get (x := .int (((ldp E i a v t).1) 1 2)) F hH inX3 (hE.1 1 (by decide)) (cq_set E _) rfl 2 (by decide) (hts (.fieldLink RX1 72 "DryingKiln$Settings" "capacity" "I") (by decide +kernel)) (fun _ h => h) rfl dX1_passDryingHour_47 ?_
          refine g_sni (As := [.int ((ldp E i a v t).2), .int (((ldp E i a v t).1) 1 2)]) F hH (c_X4_quotient l E hE ((ldp E i a v t).1) ((ldp E i a v t).2) (((ldp E i a v t).1) 1 2)) ⟨va_cnB 2 hts gX1_passDryingHour_X4_quotient_n69 rfl rfl rfl F.2.2.2.1.2.1 (hts (.initialized RX4) (by decide +kernel)) (by decide +kernel) ⟨Nat.le_of_ble_eq_true rfl, Nat.le_of_ble_eq_true rfl⟩, (hts (.static yX4_quotient) (by decide +kernel)), trivial⟩ rfl hl.1 [.int a, .int 0] rfl (Nat.le_of_ble_eq_true rfl) dX1_passDryingHour_50 ⟨Nat.zero_le _, Nat.zero_le _⟩ (fun H locs hH => ?_)
          refine lv_iadd hx hb dX1_passDryingHour_53 ?_
          refine va_mmax hx hb (by rw [hml]; exact hl.1.symm) hown (hts (.methodLink RX1 51 Lib.Math.max.name) (by decide +kernel)) (hts (.static Lib.Math.max.name) (by decide +kernel)) (hts (.initialized "java/lang/Math") (by decide +kernel)) (hts (.code Lib.Math.max.name Lib.Math.max.code 2 (some .int)) (by decide +kernel)) (Nat.le_of_ble_eq_true rfl) (Nat.le_of_ble_eq_true rfl) (Nat.zero_le _) (Nat.zero_le _) dX1_passDryingHour_54 ?_
          rw [← imx_eq 0 (a + (quo ((ldp E i a v t).2) (((ldp E i a v t).1) 1 2)))]
          refine lv_istore (lv' := [(6, .int (imx 0 (a + (quo ((ldp E i a v t).2) (((ldp E i a v t).1) 1 2))))), (5, .int (nI (eNb E i - 1 - t))), (0, .ref (eAd E (5 + i))), (1, .int a), (2, .ref (eAd E 1)), (3, .int ((ldp E i a v t).2)), (4, .int (nI t))]) hx hb dX1_passDryingHour_57 hl (by decide) rfl (fun ls hl => ?_)
          refine lv_iload_n hx hb dX1_passDryingHour_59 rfl (lv_at hl 5 rfl) ?_
          refine lv_aload_n hx hb dX1_passDryingHour_60 rfl (lv_at hl 2 rfl) ?_
          refine g_get (x := .ref (eAd E (8 + i))) F hH inX1 (hE.1 _ (by have := hi; omega)) (cq_ld E _ hi) rfl 2 (by decide) (hts (.fieldLink RX1 22 "DryingKiln$Load" "boards" "Ljava/util/ArrayList;") (by decide +kernel)) (fun _ h => h) rfl dX1_passDryingHour_61 ?_
          refine lv_iload hx hb dX1_passDryingHour_64 (lv_at hl 1 rfl) ?_
          refine g_vr (As := [.int (nI (eNb E i - 1 - t))]) F hH (c_Jx4a65c_get_915e3 l E hE ((ldp E i a v t).1) i (eNb E i - 1 - t) (by first | assumption | omega | decide) (by first | assumption | omega | decide)) (cwV 1 hts gX1_passDryingHour_Jx4a65c_get_915e3 rfl rfl rfl (by decide +kernel) ⟨Nat.le_of_ble_eq_true rfl, Nat.le_of_ble_eq_true rfl⟩) (hE.1 _ (by have := hi; omega)) (cq_li E _ hi) rfl rfl hl.1 [.int ((ldp E i a v t).2)] rfl (Nat.le_of_ble_eq_true rfl) dX1_passDryingHour_66 ⟨Nat.zero_le _, Nat.zero_le _⟩ (fun H locs hH => ?_)
          refine g_cast F hH (hE.2.2.2.1 i (eNb E i - 1 - t) hi (by omega)).1 (cq_bo E _ (by omega)) (by rfl) (hts (.classLink RX1 34 "DryingKiln$Board") (by decide +kernel)) dX1_passDryingHour_69 ?_
          refine lv_iload hx hb dX1_passDryingHour_72 (lv_at hl 0 rfl) ?_
          refine lv_aload_n hx hb dX1_passDryingHour_74 rfl (lv_at hl 4 rfl) ?_
          refine g_vi (As := [.int (imx 0 (a + (quo ((ldp E i a v t).2) (((ldp E i a v t).1) 1 2)))), .ref (eAd E 1)]) F hH (c_X0_passDryingHour l E hE ((ldp E i a v t).1) i (eNb E i - 1 - t) (imx 0 (a + (quo ((ldp E i a v t).2) (((ldp E i a v t).1) 1 2)))) (by first | assumption | omega | decide) (by first | assumption | omega | decide)) (cwV 2 hts gX1_passDryingHour_X0_passDryingHour rfl rfl rfl (by decide +kernel) ⟨Nat.le_of_ble_eq_true rfl, Nat.le_of_ble_eq_true rfl⟩) (hE.2.2.2.1 i (eNb E i - 1 - t) hi (by omega)).1 (cq_bo E _ (by omega)) rfl rfl hl.1 [.int ((ldp E i a v t).2)] rfl (Nat.le_of_ble_eq_true rfl) dX1_passDryingHour_75 ⟨Nat.zero_le _, Nat.zero_le _⟩ (fun H locs hH => ?_)
          refine lv_iadd hx hb dX1_passDryingHour_78 ?_
          refine lv_istore_n (lv' := [(3, .int (((ldp E i a v t).2) + (btop E i (eNb E i - 1 - t) (imx 0 (a + (quo ((ldp E i a v t).2) (((ldp E i a v t).1) 1 2)))) ((ldp E i a v t).1) + bbot E i (eNb E i - 1 - t) (imx 0 (a + (quo ((ldp E i a v t).2) (((ldp E i a v t).1) 1 2)))) ((ldp E i a v t).1)))), (6, .int (imx 0 (a + (quo ((ldp E i a v t).2) (((ldp E i a v t).1) 1 2))))), (5, .int (nI (eNb E i - 1 - t))), (0, .ref (eAd E (5 + i))), (1, .int a), (2, .ref (eAd E 1)), (4, .int (nI t))]) hx hb dX1_passDryingHour_79 rfl hl (by decide) rfl (fun ls hl => ?_)
          refine lv_iinc (v := nI (t + 1)) (lv' := [(4, .int (nI (t + 1))), (3, .int (((ldp E i a v t).2) + (btop E i (eNb E i - 1 - t) (imx 0 (a + (quo ((ldp E i a v t).2) (((ldp E i a v t).1) 1 2)))) ((ldp E i a v t).1) + bbot E i (eNb E i - 1 - t) (imx 0 (a + (quo ((ldp E i a v t).2) (((ldp E i a v t).1) 1 2)))) ((ldp E i a v t).1)))), (6, .int (imx 0 (a + (quo ((ldp E i a v t).2) (((ldp E i a v t).1) 1 2))))), (5, .int (nI (eNb E i - 1 - t))), (0, .ref (eAd E (5 + i))), (1, .int a), (2, .ref (eAd E 1))]) hx hb dX1_passDryingHour_80 hl (k := 6) rfl (nI_1 _) (by decide) rfl (fun ls hl => ?_)
          refine lv_goto (tgt := 5) hx hb dX1_passDryingHour_83 (by decide) ?_
          exact ih (t + 1) (by omega) _ _ ls (by first | exact hH | (simp only [ldp, lnum, lair, c2, c3, if_true, if_false, ↓reduceIte]; exact hH)) (by first | exact lv_sub hl [4, 5, 6, 1, 0] rfl | (have h := lv_sub hl [4, 5, 6, 1, 0] rfl; simp only [ldp, lnum, lair, c2, c3, if_true, if_false, ↓reduceIte]; exact h))
  exact loop5 (eNb E i) 0 (Nat.zero_add _) _ _ ls hH (lv_sub hl [2, 3, 4, 1, 0] rfl)

set_option maxHeartbeats 4000000 in
set_option maxRecDepth 100000 in
theorem c_X1_passRestHour (l : Launch) (E : Ev) (hE : EO E) (v : Mem) (i : Nat) (hi : i < 3) : Cv l yX1_passRestHour wsX1_passRestHour ({ frames := 3, cells := 0, slots := 0, locals := 64 } : Room) E [.ref (eAd E (5 + i)), .ref (eAd E 1)] v (lrst E i v) := by
  refine Cv.of (cc := cX1_passRestHour) (maxL := 3) (ret := none) (own := RX1) (by decide) rfl rfl (Nat.le_of_ble_eq_true rfl) ?_
  intro p e s m below meth c F hr hlk ls hl hH
  obtain ⟨hx, hb, hml, hown, hts⟩ := id F.1
  have hl : lv_has ls 3 [(0, .ref (eAd E (5 + i))), (1, .ref (eAd E 1))] := hl
  have inJx4a65c : ∀ w ∈ wsJx4a65c0, w ∈ wsX1_passRestHour := fun w h => List.mem_cons_of_mem _ (List.mem_append_left _ (List.mem_append_right _ h))
  have inX0 : ∀ w ∈ wsX00, w ∈ wsX1_passRestHour := fun w h => List.mem_cons_of_mem _ (List.mem_append_right _ h)
  have inX1 : ∀ w ∈ wsX10, w ∈ wsX1_passRestHour := fun w h => List.mem_cons_of_mem _ (List.mem_append_left _ (List.mem_append_left _ (List.mem_append_left _ (List.mem_append_right _ h))))
  have inX3 : ∀ w ∈ wsX30, w ∈ wsX1_passRestHour := fun w h => List.mem_cons_of_mem _ (List.mem_append_left _ (List.mem_append_left _ (List.mem_append_right _ h)))
  have hnb := hE.2.2.2.2.1 i (by omega)
  refine lv_iconst (v := 0) hx hb dX1_passRestHour_0 (by decide) ?_
  refine lv_istore_n (lv' := [(2, .int 0), (0, .ref (eAd E (5 + i))), (1, .ref (eAd E 1))]) hx hb dX1_passRestHour_1 rfl hl (by decide) rfl (fun ls hl => ?_)
  have loop2 : ∀ (n t : Nat), t + n = eNb E i → ∀ (H : Heap) (locs : List Loc) (ls : Array Slot), HS E s.heap (lrs E i v t) H locs → lv_has ls 3 [(0, .ref (eAd E (5 + i))), (1, .ref (eAd E 1)), (2, .int (nI t))] → W p l e ({ frames := 3, cells := 0, slots := 0, locals := 64 } : Room) s m ([.ref (eAd E (5 + i)), .ref (eAd E 1)] : List Value).toArray below meth c H locs 0 0 (Zv below E ([.ref (eAd E (5 + i)), .ref (eAd E 1)] : List Value).toArray s (lrst E i v)) (F0 m 2 ls []) := by
    intro n
    induction n with
    | zero =>
      intro t ht H locs ls hH hl
      obtain rfl : eNb E i = t := by omega
      refine lv_iload_n hx hb dX1_passRestHour_2 rfl (lv_at hl 2 rfl) ?_
      refine lv_aload_n hx hb dX1_passRestHour_3 rfl (lv_at hl 0 rfl) ?_
      refine g_get (x := .ref (eAd E (8 + i))) F hH inX1 (hE.1 _ (by have := hi; omega)) (cq_ld E _ hi) rfl 2 (by decide) (hts (.fieldLink RX1 22 "DryingKiln$Load" "boards" "Ljava/util/ArrayList;") (by decide +kernel)) (fun _ h => h) rfl dX1_passRestHour_4 ?_
      refine g_vi (As := []) F hH (c_Jx4a65c_size_8abf5 l E hE (lrs E i v (eNb E i)) i (by first | assumption | omega | decide)) (cwV 0 hts gX1_passRestHour_Jx4a65c_size_8abf5 rfl rfl rfl (by decide +kernel) ⟨Nat.le_of_ble_eq_true rfl, Nat.le_of_ble_eq_true rfl⟩) (hE.1 _ (by have := hi; omega)) (cq_li E _ hi) rfl rfl hl.1 [.int (nI (eNb E i))] rfl (Nat.le_of_ble_eq_true rfl) dX1_passRestHour_7 ⟨Nat.zero_le _, Nat.zero_le _⟩ (fun H locs hH => ?_)
      refine lv_icmp_ge (tgt := 37) hx hb dX1_passRestHour_10 (by decide) (fun c1 => ?_) (fun c1 => ?_)
      · skip
        exact g_vret F hr hlk hH rfl dX1_passRestHour_37
      · skip
        exact absurd (nI_le (Nat.le_refl _) (by omega)) c1
    | succ n ih =>
      intro t ht H locs ls hH hl
      have htN : t < eNb E i := by omega
      refine lv_iload_n hx hb dX1_passRestHour_2 rfl (lv_at hl 2 rfl) ?_
      refine lv_aload_n hx hb dX1_passRestHour_3 rfl (lv_at hl 0 rfl) ?_
      refine g_get (x := .ref (eAd E (8 + i))) F hH inX1 (hE.1 _ (by have := hi; omega)) (cq_ld E _ hi) rfl 2 (by decide) (hts (.fieldLink RX1 22 "DryingKiln$Load" "boards" "Ljava/util/ArrayList;") (by decide +kernel)) (fun _ h => h) rfl dX1_passRestHour_4 ?_
      refine g_vi (As := []) F hH (c_Jx4a65c_size_8abf5 l E hE (lrs E i v t) i (by first | assumption | omega | decide)) (cwV 0 hts gX1_passRestHour_Jx4a65c_size_8abf5 rfl rfl rfl (by decide +kernel) ⟨Nat.le_of_ble_eq_true rfl, Nat.le_of_ble_eq_true rfl⟩) (hE.1 _ (by have := hi; omega)) (cq_li E _ hi) rfl rfl hl.1 [.int (nI t)] rfl (Nat.le_of_ble_eq_true rfl) dX1_passRestHour_7 ⟨Nat.zero_le _, Nat.zero_le _⟩ (fun H locs hH => ?_)
      refine lv_icmp_ge (tgt := 37) hx hb dX1_passRestHour_10 (by decide) (fun c2 => ?_) (fun c2 => ?_)
      · skip
        exact absurd c2 (nI_ge htN (by omega))
      · skip
        refine lv_aload_n hx hb dX1_passRestHour_13 rfl (lv_at hl 0 rfl) ?_
        refine g_get (x := .ref (eAd E (8 + i))) F hH inX1 (hE.1 _ (by have := hi; omega)) (cq_ld E _ hi) rfl 2 (by decide) (hts (.fieldLink RX1 22 "DryingKiln$Load" "boards" "Ljava/util/ArrayList;") (by decide +kernel)) (fun _ h => h) rfl dX1_passRestHour_14 ?_
        refine lv_iload_n hx hb dX1_passRestHour_17 rfl (lv_at hl 2 rfl) ?_
        refine g_vr (As := [.int (nI t)]) F hH (c_Jx4a65c_get_915e3 l E hE (lrs E i v t) i t (by first | assumption | omega | decide) (by first | assumption | omega | decide)) (cwV 1 hts gX1_passRestHour_Jx4a65c_get_915e3 rfl rfl rfl (by decide +kernel) ⟨Nat.le_of_ble_eq_true rfl, Nat.le_of_ble_eq_true rfl⟩) (hE.1 _ (by have := hi; omega)) (cq_li E _ hi) rfl rfl hl.1 [] rfl (Nat.le_of_ble_eq_true rfl) dX1_passRestHour_18 ⟨Nat.zero_le _, Nat.zero_le _⟩ (fun H locs hH => ?_)
        refine g_cast F hH (hE.2.2.2.1 i t hi (by omega)).1 (cq_bo E _ (by omega)) (by rfl) (hts (.classLink RX1 34 "DryingKiln$Board") (by decide +kernel)) dX1_passRestHour_21 ?_
        refine lv_aload_n hx hb dX1_passRestHour_24 rfl (lv_at hl 1 rfl) ?_
        refine g_get (x := .int ((lrs E i v t) 1 0)) F hH inX3 (hE.1 1 (by decide)) (cq_set E _) rfl 0 (by decide) (hts (.fieldLink RX1 88 "DryingKiln$Settings" "diffusion" "I") (by decide +kernel)) (fun _ h => h) rfl dX1_passRestHour_25 ?_
        refine g_vv (As := [.int ((lrs E i v t) 1 0)]) F hH (c_X0_passRestHour l E hE (lrs E i v t) i t ((lrs E i v t) 1 0) (by first | assumption | omega | decide) (by first | assumption | omega | decide)) (cwV 1 hts gX1_passRestHour_X0_passRestHour rfl rfl rfl (by decide +kernel) ⟨Nat.le_of_ble_eq_true rfl, Nat.le_of_ble_eq_true rfl⟩) (hE.2.2.2.1 i t hi (by omega)).1 (cq_bo E _ (by omega)) rfl rfl hl.1 [] rfl (Nat.le_of_ble_eq_true rfl) dX1_passRestHour_28 ⟨Nat.zero_le _, Nat.zero_le _⟩ (fun H locs hH => ?_)
        refine lv_iinc (v := nI (t + 1)) (lv' := [(2, .int (nI (t + 1))), (0, .ref (eAd E (5 + i))), (1, .ref (eAd E 1))]) hx hb dX1_passRestHour_31 hl (k := 2) rfl (nI_1 _) (by decide) rfl (fun ls hl => ?_)
        refine lv_goto (tgt := 2) hx hb dX1_passRestHour_34 (by decide) ?_
        exact ih (t + 1) (by omega) _ _ ls (by first | exact hH | (simp only [c2, if_true, if_false, ↓reduceIte]; exact hH)) (by first | exact lv_sub hl [1, 2, 0] rfl | (have h := lv_sub hl [1, 2, 0] rfl; simp only [c2, if_true, if_false, ↓reduceIte]; exact h))
  exact loop2 (eNb E i) 0 (Nat.zero_add _) _ _ ls hH (lv_sub hl [1, 2, 0] rfl)

set_option maxHeartbeats 4000000 in
set_option maxRecDepth 100000 in
theorem c_X1_recordChecks (l : Launch) (E : Ev) (hE : EO E) (v : Mem) (i : Nat) (a : Int32) (b : Int32) (hi : i < 3) : Ci l yX1_recordChecks wsX1_recordChecks ({ frames := 3, cells := 0, slots := 0, locals := 64 } : Room) E [.ref (eAd E (5 + i)), .int a, .int b] v ((lrc E i a b v (eNb E i)).2) ((lrc E i a b v (eNb E i)).1) := by
  refine Ci.of (cc := cX1_recordChecks) (maxL := 6) (ret := (some .int)) (own := RX1) (by decide) rfl rfl (Nat.le_of_ble_eq_true rfl) ?_
  intro p e s m below meth c F hr hlk ls hl hH
  obtain ⟨hx, hb, hml, hown, hts⟩ := id F.1
  have hl : lv_has ls 6 [(0, .ref (eAd E (5 + i))), (1, .int a), (2, .int b)] := hl
  have inJx4a65c : ∀ w ∈ wsJx4a65c0, w ∈ wsX1_recordChecks := fun w h => List.mem_cons_of_mem _ (List.mem_append_right _ h)
  have inX0 : ∀ w ∈ wsX00, w ∈ wsX1_recordChecks := fun w h => List.mem_cons_of_mem _ (List.mem_append_left _ (List.mem_append_right _ h))
  have inX1 : ∀ w ∈ wsX10, w ∈ wsX1_recordChecks := fun w h => List.mem_cons_of_mem _ (List.mem_append_left _ (List.mem_append_left _ (List.mem_append_right _ h)))
  have hnb := hE.2.2.2.2.1 i (by omega)
  refine lv_iconst (v := 0) hx hb dX1_recordChecks_0 (by decide) ?_
  refine lv_istore_n (lv' := [(3, .int 0), (0, .ref (eAd E (5 + i))), (1, .int a), (2, .int b)]) hx hb dX1_recordChecks_1 rfl hl (by decide) rfl (fun ls hl => ?_)
  refine lv_iconst (v := 0) hx hb dX1_recordChecks_2 (by decide) ?_
  refine lv_istore (lv' := [(4, .int 0), (3, .int 0), (0, .ref (eAd E (5 + i))), (1, .int a), (2, .int b)]) hx hb dX1_recordChecks_3 hl (by decide) rfl (fun ls hl => ?_)
  have loop5 : ∀ (n t : Nat), t + n = eNb E i → ∀ (H : Heap) (locs : List Loc) (ls : Array Slot), HS E s.heap ((lrc E i a b v t).1) H locs → lv_has ls 6 [(0, .ref (eAd E (5 + i))), (1, .int a), (2, .int b), (3, .int ((lrc E i a b v t).2)), (4, .int (nI t))] → W p l e ({ frames := 3, cells := 0, slots := 0, locals := 64 } : Room) s m ([.ref (eAd E (5 + i)), .int a, .int b] : List Value).toArray below meth c H locs 0 0 (Zi below E ([.ref (eAd E (5 + i)), .int a, .int b] : List Value).toArray s ((lrc E i a b v (eNb E i)).2) ((lrc E i a b v (eNb E i)).1)) (F0 m 5 ls []) := by
    intro n
    induction n with
    | zero =>
      intro t ht H locs ls hH hl
      obtain rfl : eNb E i = t := by omega
      refine lv_iload hx hb dX1_recordChecks_5 (lv_at hl 4 rfl) ?_
      refine lv_aload_n hx hb dX1_recordChecks_7 rfl (lv_at hl 0 rfl) ?_
      refine g_get (x := .ref (eAd E (8 + i))) F hH inX1 (hE.1 _ (by have := hi; omega)) (cq_ld E _ hi) rfl 2 (by decide) (hts (.fieldLink RX1 22 "DryingKiln$Load" "boards" "Ljava/util/ArrayList;") (by decide +kernel)) (fun _ h => h) rfl dX1_recordChecks_8 ?_
      refine g_vi (As := []) F hH (c_Jx4a65c_size_8abf5 l E hE ((lrc E i a b v (eNb E i)).1) i (by first | assumption | omega | decide)) (cwV 0 hts gX1_recordChecks_Jx4a65c_size_8abf5 rfl rfl rfl (by decide +kernel) ⟨Nat.le_of_ble_eq_true rfl, Nat.le_of_ble_eq_true rfl⟩) (hE.1 _ (by have := hi; omega)) (cq_li E _ hi) rfl rfl hl.1 [.int (nI (eNb E i))] rfl (Nat.le_of_ble_eq_true rfl) dX1_recordChecks_11 ⟨Nat.zero_le _, Nat.zero_le _⟩ (fun H locs hH => ?_)
      refine lv_icmp_ge (tgt := 65) hx hb dX1_recordChecks_14 (by decide) (fun c1 => ?_) (fun c1 => ?_)
      · skip
        refine lv_iload_n hx hb dX1_recordChecks_65 rfl (lv_at hl 3 rfl) ?_
        exact g_iret F hr hlk hH rfl rfl dX1_recordChecks_66
      · skip
        exact absurd (nI_le (Nat.le_refl _) (by omega)) c1
    | succ n ih =>
      intro t ht H locs ls hH hl
      have htN : t < eNb E i := by omega
      refine lv_iload hx hb dX1_recordChecks_5 (lv_at hl 4 rfl) ?_
      refine lv_aload_n hx hb dX1_recordChecks_7 rfl (lv_at hl 0 rfl) ?_
      refine g_get (x := .ref (eAd E (8 + i))) F hH inX1 (hE.1 _ (by have := hi; omega)) (cq_ld E _ hi) rfl 2 (by decide) (hts (.fieldLink RX1 22 "DryingKiln$Load" "boards" "Ljava/util/ArrayList;") (by decide +kernel)) (fun _ h => h) rfl dX1_recordChecks_8 ?_
      refine g_vi (As := []) F hH (c_Jx4a65c_size_8abf5 l E hE ((lrc E i a b v t).1) i (by first | assumption | omega | decide)) (cwV 0 hts gX1_recordChecks_Jx4a65c_size_8abf5 rfl rfl rfl (by decide +kernel) ⟨Nat.le_of_ble_eq_true rfl, Nat.le_of_ble_eq_true rfl⟩) (hE.1 _ (by have := hi; omega)) (cq_li E _ hi) rfl rfl hl.1 [.int (nI t)] rfl (Nat.le_of_ble_eq_true rfl) dX1_recordChecks_11 ⟨Nat.zero_le _, Nat.zero_le _⟩ (fun H locs hH => ?_)
      refine lv_icmp_ge (tgt := 65) hx hb dX1_recordChecks_14 (by decide) (fun c2 => ?_) (fun c2 => ?_)
      · skip
        exact absurd c2 (nI_ge htN (by omega))
      · skip
        refine lv_aload_n hx hb dX1_recordChecks_17 rfl (lv_at hl 0 rfl) ?_
        refine g_get (x := .ref (eAd E (8 + i))) F hH inX1 (hE.1 _ (by have := hi; omega)) (cq_ld E _ hi) rfl 2 (by decide) (hts (.fieldLink RX1 22 "DryingKiln$Load" "boards" "Ljava/util/ArrayList;") (by decide +kernel)) (fun _ h => h) rfl dX1_recordChecks_18 ?_
        refine lv_iload hx hb dX1_recordChecks_21 (lv_at hl 4 rfl) ?_
        refine g_vr (As := [.int (nI t)]) F hH (c_Jx4a65c_get_915e3 l E hE ((lrc E i a b v t).1) i t (by first | assumption | omega | decide) (by first | assumption | omega | decide)) (cwV 1 hts gX1_recordChecks_Jx4a65c_get_915e3 rfl rfl rfl (by decide +kernel) ⟨Nat.le_of_ble_eq_true rfl, Nat.le_of_ble_eq_true rfl⟩) (hE.1 _ (by have := hi; omega)) (cq_li E _ hi) rfl rfl hl.1 [] rfl (Nat.le_of_ble_eq_true rfl) dX1_recordChecks_23 ⟨Nat.zero_le _, Nat.zero_le _⟩ (fun H locs hH => ?_)
        refine g_cast F hH (hE.2.2.2.1 i t hi (by omega)).1 (cq_bo E _ (by omega)) (by rfl) (hts (.classLink RX1 34 "DryingKiln$Board") (by decide +kernel)) dX1_recordChecks_26 ?_
        refine lv_astore (lv' := [(5, .ref (eAd E (bo i t))), (0, .ref (eAd E (5 + i))), (1, .int a), (2, .int b), (3, .int ((lrc E i a b v t).2)), (4, .int (nI t))]) hx hb dX1_recordChecks_29 hl (by decide) rfl (fun ls hl => ?_)
        refine lv_aload hx hb dX1_recordChecks_31 (lv_at hl 0 rfl) ?_
        refine g_get (x := .int (((lrc E i a b v t).1) (bo i t) 1)) F hH inX0 (hE.2.2.2.1 i t hi (by omega)).1 (cq_bo E _ (by omega)) rfl 1 (by decide) (hts (.fieldLink RX1 94 "DryingKiln$Board" "checkedAt" "I") (by decide +kernel)) (fun _ h => h) rfl dX1_recordChecks_33 ?_
        refine lv_ldc (v := -1000005) hx hb hown (hts (.constant RX1 47 (-1000005)) (by decide +kernel)) dX1_recordChecks_36 ?_
        refine lv_icmp_ne (tgt := 59) hx hb dX1_recordChecks_38 (by decide) (fun c3 => ?_) (fun c3 => ?_)
        · skip
          refine lv_iinc (v := nI (t + 1)) (lv' := [(4, .int (nI (t + 1))), (5, .ref (eAd E (bo i t))), (0, .ref (eAd E (5 + i))), (1, .int a), (2, .int b), (3, .int ((lrc E i a b v t).2))]) hx hb dX1_recordChecks_59 hl (k := 5) rfl (nI_1 _) (by decide) rfl (fun ls hl => ?_)
          refine lv_goto (tgt := 5) hx hb dX1_recordChecks_62 (by decide) ?_
          exact ih (t + 1) (by omega) _ _ ls (by first | exact hH | (simp only [lrc, c2, c3, if_true, if_false, ↓reduceIte]; exact hH)) (by first | exact lv_sub hl [2, 3, 4, 5, 0] rfl | (have h := lv_sub hl [2, 3, 4, 5, 0] rfl; simp only [lrc, c2, c3, if_true, if_false, ↓reduceIte]; exact h))
        · skip
          refine lv_aload hx hb dX1_recordChecks_41 (lv_at hl 0 rfl) ?_
          refine g_vi (As := []) F hH (c_X0_gradient l E hE ((lrc E i a b v t).1) i t (by first | assumption | omega | decide) (by first | assumption | omega | decide)) (cwV 0 hts gX1_recordChecks_X0_gradient rfl rfl rfl (by decide +kernel) ⟨Nat.le_of_ble_eq_true rfl, Nat.le_of_ble_eq_true rfl⟩) (hE.2.2.2.1 i t hi (by omega)).1 (cq_bo E _ (by omega)) rfl rfl hl.1 [] rfl (Nat.le_of_ble_eq_true rfl) dX1_recordChecks_43 ⟨Nat.zero_le _, Nat.zero_le _⟩ (fun H locs hH => ?_)
          refine lv_iload_n hx hb dX1_recordChecks_46 rfl (lv_at hl 2 rfl) ?_
          refine lv_icmp_le (tgt := 59) hx hb dX1_recordChecks_47 (by decide) (fun c4 => ?_) (fun c4 => ?_)
          · skip
            refine lv_iinc (v := nI (t + 1)) (lv' := [(4, .int (nI (t + 1))), (5, .ref (eAd E (bo i t))), (0, .ref (eAd E (5 + i))), (1, .int a), (2, .int b), (3, .int ((lrc E i a b v t).2))]) hx hb dX1_recordChecks_59 hl (k := 5) rfl (nI_1 _) (by decide) rfl (fun ls hl => ?_)
            refine lv_goto (tgt := 5) hx hb dX1_recordChecks_62 (by decide) ?_
            exact ih (t + 1) (by omega) _ _ ls (by first | exact hH | (simp only [lrc, c2, c3, c4, if_true, if_false, ↓reduceIte]; exact hH)) (by first | exact lv_sub hl [2, 3, 4, 5, 0] rfl | (have h := lv_sub hl [2, 3, 4, 5, 0] rfl; simp only [lrc, c2, c3, c4, if_true, if_false, ↓reduceIte]; exact h))
          · skip
            refine lv_aload hx hb dX1_recordChecks_50 (lv_at hl 0 rfl) ?_
            refine lv_iload_n hx hb dX1_recordChecks_52 rfl (lv_at hl 3 rfl) ?_
            refine g_put (ty := .int) (x := b) F hH inX0 tyX0 tyX0_ok nmX0 (hE.2.2.2.1 i t hi (by omega)).1 (cq_bo E _ (by omega)) rfl 1 (by decide) (hts (.fieldLink RX1 94 "DryingKiln$Board" "checkedAt" "I") (by decide +kernel)) (fun _ h => h) rfl (by decide +kernel) rfl rfl (Nat.le_of_ble_eq_true rfl) (cq_bo E _ (by omega)) dX1_recordChecks_53 (fun H locs hH => ?_)
            refine lv_iinc (v := ((lrc E i a b v t).2) + 1) (lv' := [(3, .int (((lrc E i a b v t).2) + 1)), (5, .ref (eAd E (bo i t))), (0, .ref (eAd E (5 + i))), (1, .int a), (2, .int b), (4, .int (nI t))]) hx hb dX1_recordChecks_56 hl (k := 4) rfl rfl (by decide) rfl (fun ls hl => ?_)
            refine lv_iinc (v := nI (t + 1)) (lv' := [(4, .int (nI (t + 1))), (3, .int (((lrc E i a b v t).2) + 1)), (5, .ref (eAd E (bo i t))), (0, .ref (eAd E (5 + i))), (1, .int a), (2, .int b)]) hx hb dX1_recordChecks_59 hl (k := 5) rfl (nI_1 _) (by decide) rfl (fun ls hl => ?_)
            refine lv_goto (tgt := 5) hx hb dX1_recordChecks_62 (by decide) ?_
            exact ih (t + 1) (by omega) _ _ ls (by first | exact hH | (simp only [lrc, c2, c3, c4, if_true, if_false, ↓reduceIte]; exact hH)) (by first | exact lv_sub hl [3, 4, 5, 1, 0] rfl | (have h := lv_sub hl [3, 4, 5, 1, 0] rfl; simp only [lrc, c2, c3, c4, if_true, if_false, ↓reduceIte]; exact h))
  exact loop5 (eNb E i) 0 (Nat.zero_add _) _ _ ls hH (lv_sub hl [2, 3, 4, 1, 0] rfl)

set_option maxHeartbeats 4000000 in
set_option maxRecDepth 100000 in
theorem c_X1_copyFrom (l : Launch) (E : Ev) (hE : EO E) (v : Mem) (i : Nat) (o : Nat) (hi : i < 3) (ho : o < 3) (hio : i ≠ o) (hno : eNb E o = eNb E i) (hbv : isB (v (5 + o) 0)) : Cv l yX1_copyFrom wsX1_copyFrom ({ frames := 3, cells := 0, slots := 0, locals := 82 } : Room) E [.ref (eAd E (5 + i)), .ref (eAd E (5 + o))] v (lcpy E i o v) := by
  refine Cv.of (cc := cX1_copyFrom) (maxL := 3) (ret := none) (own := RX1) (by decide) rfl rfl (Nat.le_of_ble_eq_true rfl) ?_
  intro p e s m below meth c F hr hlk ls hl hH
  obtain ⟨hx, hb, hml, hown, hts⟩ := id F.1
  have hl : lv_has ls 3 [(0, .ref (eAd E (5 + i))), (1, .ref (eAd E (5 + o)))] := hl
  have inJx4a65c : ∀ w ∈ wsJx4a65c0, w ∈ wsX1_copyFrom := fun w h => List.mem_cons_of_mem _ (List.mem_append_left _ (List.mem_append_right _ h))
  have inX0 : ∀ w ∈ wsX00, w ∈ wsX1_copyFrom := fun w h => List.mem_cons_of_mem _ (List.mem_append_right _ h)
  have inX1 : ∀ w ∈ wsX10, w ∈ wsX1_copyFrom := fun w h => List.mem_cons_of_mem _ (List.mem_append_left _ (List.mem_append_left _ (List.mem_append_right _ h)))
  have hnb := hE.2.2.2.2.1 i (by omega)
  refine lv_iconst (v := 0) hx hb dX1_copyFrom_0 (by decide) ?_
  refine lv_istore_n (lv' := [(2, .int 0), (0, .ref (eAd E (5 + i))), (1, .ref (eAd E (5 + o)))]) hx hb dX1_copyFrom_1 rfl hl (by decide) rfl (fun ls hl => ?_)
  have loop2 : ∀ (n t : Nat), t + n = eNb E i → ∀ (H : Heap) (locs : List Loc) (ls : Array Slot), HS E s.heap (lcp E i o v t) H locs → lv_has ls 3 [(0, .ref (eAd E (5 + i))), (1, .ref (eAd E (5 + o))), (2, .int (nI t))] → W p l e ({ frames := 3, cells := 0, slots := 0, locals := 82 } : Room) s m ([.ref (eAd E (5 + i)), .ref (eAd E (5 + o))] : List Value).toArray below meth c H locs 0 0 (Zv below E ([.ref (eAd E (5 + i)), .ref (eAd E (5 + o))] : List Value).toArray s (lcpy E i o v)) (F0 m 2 ls []) := by
    intro n
    induction n with
    | zero =>
      intro t ht H locs ls hH hl
      obtain rfl : eNb E i = t := by omega
      refine lv_iload_n hx hb dX1_copyFrom_2 rfl (lv_at hl 2 rfl) ?_
      refine lv_aload_n hx hb dX1_copyFrom_3 rfl (lv_at hl 0 rfl) ?_
      refine g_get (x := .ref (eAd E (8 + i))) F hH inX1 (hE.1 _ (by have := hi; omega)) (cq_ld E _ hi) rfl 2 (by decide) (hts (.fieldLink RX1 22 "DryingKiln$Load" "boards" "Ljava/util/ArrayList;") (by decide +kernel)) (fun _ h => h) rfl dX1_copyFrom_4 ?_
      refine g_vi (As := []) F hH (c_Jx4a65c_size_8abf5 l E hE (lcp E i o v (eNb E i)) i (by first | assumption | omega | decide)) (cwV 0 hts gX1_copyFrom_Jx4a65c_size_8abf5 rfl rfl rfl (by decide +kernel) ⟨Nat.le_of_ble_eq_true rfl, Nat.le_of_ble_eq_true rfl⟩) (hE.1 _ (by have := hi; omega)) (cq_li E _ hi) rfl rfl hl.1 [.int (nI (eNb E i))] rfl (Nat.le_of_ble_eq_true rfl) dX1_copyFrom_7 ⟨Nat.zero_le _, Nat.zero_le _⟩ (fun H locs hH => ?_)
      refine lv_icmp_ge (tgt := 55) hx hb dX1_copyFrom_10 (by decide) (fun c1 => ?_) (fun c1 => ?_)
      · skip
        refine lv_aload_n hx hb dX1_copyFrom_55 rfl (lv_at hl 0 rfl) ?_
        refine lv_aload_n hx hb dX1_copyFrom_56 rfl (lv_at hl 1 rfl) ?_
        refine g_get (x := .int ((lcp E i o v (eNb E i)) (5 + o) 0)) F hH inX1 (hE.1 _ (by have := ho; omega)) (cq_ld E _ ho) rfl 0 (by decide) (hts (.fieldLink RX1 9 "DryingKiln$Load" "reversed" "Z") (by decide +kernel)) (fun _ h => h) rfl dX1_copyFrom_57 ?_
        rw [show (lcp E i o v (eNb E i)) (5 + o) 0 = v (5 + o) 0 from congrFun (lcp_ne E i o v (fun j => Ne.symm (ne_al (by omega))) _) _]
        refine g_put (ty := .boolean) (x := v (5 + o) 0) F hH inX1 tyX1 tyX1_ok nmX1 (hE.1 _ (by have := hi; omega)) (cq_ld E _ hi) rfl 0 (by decide) (hts (.fieldLink RX1 9 "DryingKiln$Load" "reversed" "Z") (by decide +kernel)) (fun _ h => h) rfl (by decide +kernel) hbv.n hbv.f (Nat.le_of_ble_eq_true rfl) (cq_ld E _ hi) dX1_copyFrom_60 (fun H locs hH => ?_)
        refine lv_aload_n hx hb dX1_copyFrom_63 rfl (lv_at hl 0 rfl) ?_
        refine lv_aload_n hx hb dX1_copyFrom_64 rfl (lv_at hl 1 rfl) ?_
        refine g_get (x := .int ((st (lcp E i o v (eNb E i)) (5 + i) 0 (v (5 + o) 0)) (5 + o) 1)) F hH inX1 (hE.1 _ (by have := ho; omega)) (cq_ld E _ ho) rfl 1 (by decide) (hts (.fieldLink RX1 15 "DryingKiln$Load" "dryingHours" "I") (by decide +kernel)) (fun _ h => h) rfl dX1_copyFrom_65 ?_
        rw [show (st (lcp E i o v (eNb E i)) (5 + i) 0 (v (5 + o) 0)) (5 + o) 1 = (lcp E i o v (eNb E i)) (5 + o) 1 by rw [st_ne _ _ _ (by omega)]]
        rw [show (lcp E i o v (eNb E i)) (5 + o) 1 = v (5 + o) 1 from congrFun (lcp_ne E i o v (fun j => Ne.symm (ne_al (by omega))) _) _]
        refine g_put (ty := .int) (x := v (5 + o) 1) F hH inX1 tyX1 tyX1_ok nmX1 (hE.1 _ (by have := hi; omega)) (cq_ld E _ hi) rfl 1 (by decide) (hts (.fieldLink RX1 15 "DryingKiln$Load" "dryingHours" "I") (by decide +kernel)) (fun _ h => h) rfl (by decide +kernel) rfl rfl (Nat.le_of_ble_eq_true rfl) (cq_ld E _ hi) dX1_copyFrom_68 (fun H locs hH => ?_)
        exact g_vret F hr hlk hH rfl dX1_copyFrom_71
      · skip
        exact absurd (nI_le (Nat.le_refl _) (by omega)) c1
    | succ n ih =>
      intro t ht H locs ls hH hl
      have htN : t < eNb E i := by omega
      refine lv_iload_n hx hb dX1_copyFrom_2 rfl (lv_at hl 2 rfl) ?_
      refine lv_aload_n hx hb dX1_copyFrom_3 rfl (lv_at hl 0 rfl) ?_
      refine g_get (x := .ref (eAd E (8 + i))) F hH inX1 (hE.1 _ (by have := hi; omega)) (cq_ld E _ hi) rfl 2 (by decide) (hts (.fieldLink RX1 22 "DryingKiln$Load" "boards" "Ljava/util/ArrayList;") (by decide +kernel)) (fun _ h => h) rfl dX1_copyFrom_4 ?_
      refine g_vi (As := []) F hH (c_Jx4a65c_size_8abf5 l E hE (lcp E i o v t) i (by first | assumption | omega | decide)) (cwV 0 hts gX1_copyFrom_Jx4a65c_size_8abf5 rfl rfl rfl (by decide +kernel) ⟨Nat.le_of_ble_eq_true rfl, Nat.le_of_ble_eq_true rfl⟩) (hE.1 _ (by have := hi; omega)) (cq_li E _ hi) rfl rfl hl.1 [.int (nI t)] rfl (Nat.le_of_ble_eq_true rfl) dX1_copyFrom_7 ⟨Nat.zero_le _, Nat.zero_le _⟩ (fun H locs hH => ?_)
      refine lv_icmp_ge (tgt := 55) hx hb dX1_copyFrom_10 (by decide) (fun c2 => ?_) (fun c2 => ?_)
      · skip
        exact absurd c2 (nI_ge htN (by omega))
      · skip
        refine lv_iload_n hx hb dX1_copyFrom_13 rfl (lv_at hl 2 rfl) ?_
        refine lv_aload_n hx hb dX1_copyFrom_14 rfl (lv_at hl 1 rfl) ?_
        refine g_get (x := .ref (eAd E (8 + o))) F hH inX1 (hE.1 _ (by have := ho; omega)) (cq_ld E _ ho) rfl 2 (by decide) (hts (.fieldLink RX1 22 "DryingKiln$Load" "boards" "Ljava/util/ArrayList;") (by decide +kernel)) (fun _ h => h) rfl dX1_copyFrom_15 ?_
        refine g_vi (As := []) F hH (c_Jx4a65c_size_8abf5 l E hE (lcp E i o v t) o (by first | assumption | omega | decide)) (cwV 0 hts gX1_copyFrom_Jx4a65c_size_8abf5 rfl rfl rfl (by decide +kernel) ⟨Nat.le_of_ble_eq_true rfl, Nat.le_of_ble_eq_true rfl⟩) (hE.1 _ (by have := ho; omega)) (cq_li E _ ho) rfl rfl hl.1 [.int (nI t)] rfl (Nat.le_of_ble_eq_true rfl) dX1_copyFrom_18 ⟨Nat.zero_le _, Nat.zero_le _⟩ (fun H locs hH => ?_)
        refine lv_icmp_ge (tgt := 55) hx hb dX1_copyFrom_21 (by decide) (fun c3 => ?_) (fun c3 => ?_)
        · skip
          exact absurd c3 (nI_ge (by omega) (by omega))
        · skip
          refine lv_aload_n hx hb dX1_copyFrom_24 rfl (lv_at hl 0 rfl) ?_
          refine g_get (x := .ref (eAd E (8 + i))) F hH inX1 (hE.1 _ (by have := hi; omega)) (cq_ld E _ hi) rfl 2 (by decide) (hts (.fieldLink RX1 22 "DryingKiln$Load" "boards" "Ljava/util/ArrayList;") (by decide +kernel)) (fun _ h => h) rfl dX1_copyFrom_25 ?_
          refine lv_iload_n hx hb dX1_copyFrom_28 rfl (lv_at hl 2 rfl) ?_
          refine g_vr (As := [.int (nI t)]) F hH (c_Jx4a65c_get_915e3 l E hE (lcp E i o v t) i t (by first | assumption | omega | decide) (by first | assumption | omega | decide)) (cwV 1 hts gX1_copyFrom_Jx4a65c_get_915e3 rfl rfl rfl (by decide +kernel) ⟨Nat.le_of_ble_eq_true rfl, Nat.le_of_ble_eq_true rfl⟩) (hE.1 _ (by have := hi; omega)) (cq_li E _ hi) rfl rfl hl.1 [] rfl (Nat.le_of_ble_eq_true rfl) dX1_copyFrom_29 ⟨Nat.zero_le _, Nat.zero_le _⟩ (fun H locs hH => ?_)
          refine g_cast F hH (hE.2.2.2.1 i t hi (by omega)).1 (cq_bo E _ (by omega)) (by rfl) (hts (.classLink RX1 34 "DryingKiln$Board") (by decide +kernel)) dX1_copyFrom_32 ?_
          refine lv_aload_n hx hb dX1_copyFrom_35 rfl (lv_at hl 1 rfl) ?_
          refine g_get (x := .ref (eAd E (8 + o))) F hH inX1 (hE.1 _ (by have := ho; omega)) (cq_ld E _ ho) rfl 2 (by decide) (hts (.fieldLink RX1 22 "DryingKiln$Load" "boards" "Ljava/util/ArrayList;") (by decide +kernel)) (fun _ h => h) rfl dX1_copyFrom_36 ?_
          refine lv_iload_n hx hb dX1_copyFrom_39 rfl (lv_at hl 2 rfl) ?_
          refine g_vr (As := [.int (nI t)]) F hH (c_Jx4a65c_get_915e3 l E hE (lcp E i o v t) o t (by first | assumption | omega | decide) (by first | assumption | omega | decide)) (cwV 1 hts gX1_copyFrom_Jx4a65c_get_915e3 rfl rfl rfl (by decide +kernel) ⟨Nat.le_of_ble_eq_true rfl, Nat.le_of_ble_eq_true rfl⟩) (hE.1 _ (by have := ho; omega)) (cq_li E _ ho) rfl rfl hl.1 [.ref (eAd E (bo i t))] rfl (Nat.le_of_ble_eq_true rfl) dX1_copyFrom_40 ⟨Nat.zero_le _, Nat.zero_le _⟩ (fun H locs hH => ?_)
          refine g_cast F hH (hE.2.2.2.1 o t ho (by omega)).1 (cq_bo E _ (by omega)) (by rfl) (hts (.classLink RX1 34 "DryingKiln$Board") (by decide +kernel)) dX1_copyFrom_43 ?_
          refine g_vv (As := [.ref (eAd E (bo o t))]) F hH (c_X0_copyMoistureFrom l E hE (lcp E i o v t) i o t (by first | assumption | omega | decide) (by first | assumption | omega | decide) (by first | assumption | omega | decide) (by first | assumption | omega | decide)) (cwV 1 hts gX1_copyFrom_X0_copyMoistureFrom rfl rfl rfl (by decide +kernel) ⟨Nat.le_of_ble_eq_true rfl, Nat.le_of_ble_eq_true rfl⟩) (hE.2.2.2.1 i t hi (by omega)).1 (cq_bo E _ (by omega)) rfl rfl hl.1 [] rfl (Nat.le_of_ble_eq_true rfl) dX1_copyFrom_46 ⟨Nat.zero_le _, Nat.zero_le _⟩ (fun H locs hH => ?_)
          refine lv_iinc (v := nI (t + 1)) (lv' := [(2, .int (nI (t + 1))), (0, .ref (eAd E (5 + i))), (1, .ref (eAd E (5 + o)))]) hx hb dX1_copyFrom_49 hl (k := 2) rfl (nI_1 _) (by decide) rfl (fun ls hl => ?_)
          refine lv_goto (tgt := 2) hx hb dX1_copyFrom_52 (by decide) ?_
          exact ih (t + 1) (by omega) _ _ ls (by first | exact hH | (simp only [c2, c3, if_true, if_false, ↓reduceIte]; exact hH)) (by first | exact lv_sub hl [1, 2, 0] rfl | (have h := lv_sub hl [1, 2, 0] rfl; simp only [c2, c3, if_true, if_false, ↓reduceIte]; exact h))
  exact loop2 (eNb E i) 0 (Nat.zero_add _) _ _ ls hH (lv_sub hl [1, 2, 0] rfl)

set_option maxHeartbeats 4000000 in
set_option maxRecDepth 100000 in
theorem c_X2_clear (l : Launch) (E : Ev) (hE : EO E) (v : Mem) : Ci l yX2_clear wsX2_clear ({ frames := 0, cells := 0, slots := 0, locals := 0 } : Room) E [.ref (eAd E 2)] v (v 2 2) (st v 2 2 0) := by
  refine Ci.of (cc := cX2_clear) (maxL := 2) (ret := (some .int)) (own := RX2) (by decide) rfl rfl (Nat.le_of_ble_eq_true rfl) ?_
  intro p e s m below meth c F hr hlk ls hl hH
  obtain ⟨hx, hb, hml, hown, hts⟩ := id F.1
  have hl : lv_has ls 2 [(0, .ref (eAd E 2))] := hl
  have inX2 : ∀ w ∈ wsX20, w ∈ wsX2_clear := fun w h => List.mem_cons_of_mem _ (List.mem_append_right _ h)
  refine lv_aload_n hx hb dX2_clear_0 rfl (lv_at hl 0 rfl) ?_
  refine g_get (x := .int (v 2 2)) F hH inX2 (hE.1 2 (by decide)) (cq_sch E _) rfl 2 (by decide) (hts (.fieldLink RX2 18 "DryingKiln$Schedule" "size" "I") (by decide +kernel)) (fun _ h => h) rfl dX2_clear_1 ?_
  refine lv_istore_n (lv' := [(1, .int (v 2 2)), (0, .ref (eAd E 2))]) hx hb dX2_clear_4 rfl hl (by decide) rfl (fun ls hl => ?_)
  refine lv_aload_n hx hb dX2_clear_5 rfl (lv_at hl 1 rfl) ?_
  refine lv_iconst (v := 0) hx hb dX2_clear_6 (by decide) ?_
  refine g_put (ty := .int) (x := 0) F hH inX2 tyX2 tyX2_ok nmX2 (hE.1 2 (by decide)) (cq_sch E _) rfl 2 (by decide) (hts (.fieldLink RX2 18 "DryingKiln$Schedule" "size" "I") (by decide +kernel)) (fun _ h => h) rfl (by decide +kernel) rfl rfl (Nat.le_of_ble_eq_true rfl) (cq_sch E _) dX2_clear_7 (fun H locs hH => ?_)
  refine lv_iload_n hx hb dX2_clear_10 rfl (lv_at hl 0 rfl) ?_
  exact g_iret F hr hlk hH (by first | rfl | (simp only [if_true, if_false, ↓reduceIte]; done) | (simp only [if_true, if_false, ↓reduceIte]; rfl)) (by first | rfl | (simp only [if_true, if_false, ↓reduceIte]; done) | (simp only [if_true, if_false, ↓reduceIte]; rfl)) dX2_clear_11

set_option maxHeartbeats 4000000 in
set_option maxRecDepth 100000 in
theorem c_X2_stageFor (l : Launch) (E : Ev) (hE : EO E) (v : Mem) (a : Int32) (ns : Nat) (hns : v 2 2 = nI ns) (h8 : ns ≤ 8) : Ci l yX2_stageFor wsX2_stageFor ({ frames := 0, cells := 0, slots := 0, locals := 0 } : Room) E [.ref (eAd E 2), .int a] v (sst v a ns) v := by
  refine Ci.of (cc := cX2_stageFor) (maxL := 4) (ret := (some .int)) (own := RX2) (by decide) rfl rfl (Nat.le_of_ble_eq_true rfl) ?_
  intro p e s m below meth c F hr hlk ls hl hH
  obtain ⟨hx, hb, hml, hown, hts⟩ := id F.1
  have hl : lv_has ls 4 [(0, .ref (eAd E 2)), (1, .int a)] := hl
  have inX2 : ∀ w ∈ wsX20, w ∈ wsX2_stageFor := fun w h => List.mem_cons_of_mem _ (List.mem_append_right _ h)
  refine lv_ldc (v := -1000005) hx hb hown (hts (.constant RX2 24 (-1000005)) (by decide +kernel)) dX2_stageFor_0 ?_
  refine lv_istore_n (lv' := [(2, .int (-1000005)), (0, .ref (eAd E 2)), (1, .int a)]) hx hb dX2_stageFor_2 rfl hl (by decide) rfl (fun ls hl => ?_)
  refine lv_iconst (v := 0) hx hb dX2_stageFor_3 (by decide) ?_
  refine lv_istore_n (lv' := [(3, .int 0), (2, .int (-1000005)), (0, .ref (eAd E 2)), (1, .int a)]) hx hb dX2_stageFor_4 rfl hl (by decide) rfl (fun ls hl => ?_)
  have loop5 : ∀ (n t : Nat), t + n = ns → ∀ (H : Heap) (locs : List Loc) (ls : Array Slot), HS E s.heap v H locs → lv_has ls 4 [(0, .ref (eAd E 2)), (1, .int a), (2, .int (sst v a t)), (3, .int (nI t))] → W p l e ({ frames := 0, cells := 0, slots := 0, locals := 0 } : Room) s m ([.ref (eAd E 2), .int a] : List Value).toArray below meth c H locs 0 0 (Zi below E ([.ref (eAd E 2), .int a] : List Value).toArray s (sst v a ns) v) (F0 m 5 ls []) := by
    intro n
    induction n with
    | zero =>
      intro t ht H locs ls hH hl
      obtain rfl : ns = t := by omega
      refine lv_iload_n hx hb dX2_stageFor_5 rfl (lv_at hl 3 rfl) ?_
      refine lv_aload_n hx hb dX2_stageFor_6 rfl (lv_at hl 0 rfl) ?_
      refine g_get (x := .int (v 2 2)) F hH inX2 (hE.1 2 (by decide)) (cq_sch E _) rfl 2 (by decide) (hts (.fieldLink RX2 18 "DryingKiln$Schedule" "size" "I") (by decide +kernel)) (fun _ h => h) rfl dX2_stageFor_7 ?_
      rw [show v 2 2 = nI ns from hns]
      refine lv_icmp_ge (tgt := 37) hx hb dX2_stageFor_10 (by decide) (fun c1 => ?_) (fun c1 => ?_)
      · skip
        refine lv_iload_n hx hb dX2_stageFor_37 rfl (lv_at hl 2 rfl) ?_
        exact g_iret F hr hlk hH (by first | rfl | (simp only [sst, c1, if_true, if_false, ↓reduceIte]; done) | (simp only [sst, c1, if_true, if_false, ↓reduceIte]; rfl)) (by first | rfl | (simp only [sst, c1, if_true, if_false, ↓reduceIte]; done) | (simp only [sst, c1, if_true, if_false, ↓reduceIte]; rfl)) dX2_stageFor_38
      · skip
        exact absurd (nI_le (Nat.le_refl _) (by omega)) c1
    | succ n ih =>
      intro t ht H locs ls hH hl
      have htN : t < ns := by omega
      refine lv_iload_n hx hb dX2_stageFor_5 rfl (lv_at hl 3 rfl) ?_
      refine lv_aload_n hx hb dX2_stageFor_6 rfl (lv_at hl 0 rfl) ?_
      refine g_get (x := .int (v 2 2)) F hH inX2 (hE.1 2 (by decide)) (cq_sch E _) rfl 2 (by decide) (hts (.fieldLink RX2 18 "DryingKiln$Schedule" "size" "I") (by decide +kernel)) (fun _ h => h) rfl dX2_stageFor_7 ?_
      rw [show v 2 2 = nI ns from hns]
      refine lv_icmp_ge (tgt := 37) hx hb dX2_stageFor_10 (by decide) (fun c2 => ?_) (fun c2 => ?_)
      · skip
        exact absurd c2 (nI_ge htN (by omega))
      · skip
        refine lv_iload_n hx hb dX2_stageFor_13 rfl (lv_at hl 3 rfl) ?_
        refine lv_bipush (v := 8) hx hb dX2_stageFor_14 (by decide) ?_
        refine lv_icmp_ge (tgt := 37) hx hb dX2_stageFor_16 (by decide) (fun c3 => ?_) (fun c3 => ?_)
        · skip
          exact absurd c3 (nI_ge (b := 8) (by omega) (by omega))
        · skip
          refine lv_aload_n hx hb dX2_stageFor_19 rfl (lv_at hl 0 rfl) ?_
          refine g_get (x := .ref (eAd E 3)) F hH inX2 (hE.1 2 (by decide)) (cq_sch E _) rfl 0 (by decide) (hts (.fieldLink RX2 9 "DryingKiln$Schedule" "thresholds" "[I") (by decide +kernel)) (fun _ h => h) rfl dX2_stageFor_20 ?_
          refine lv_iload_n hx hb dX2_stageFor_23 rfl (lv_at hl 3 rfl) ?_
          refine g_iald (n := 8) (x := v 3 t) F hH (hE.1 3 (by decide)) rfl t rfl (by omega) (by omega) rfl dX2_stageFor_24 ?_
          refine lv_iload_n hx hb dX2_stageFor_25 rfl (lv_at hl 1 rfl) ?_
          refine lv_icmp_lt (tgt := 31) hx hb dX2_stageFor_26 (by decide) (fun c4 => ?_) (fun c4 => ?_)
          · skip
            refine lv_iinc (v := nI (t + 1)) (lv' := [(3, .int (nI (t + 1))), (0, .ref (eAd E 2)), (1, .int a), (2, .int (sst v a t))]) hx hb dX2_stageFor_31 hl (k := 3) rfl (nI_1 _) (by decide) rfl (fun ls hl => ?_)
            refine lv_goto (tgt := 5) hx hb dX2_stageFor_34 (by decide) ?_
            exact ih (t + 1) (by omega) _ _ ls (by first | exact hH | (simp only [sst, c2, c3, c4, if_true, if_false, ↓reduceIte]; exact hH)) (by first | exact lv_sub hl [1, 2, 3, 0] rfl | (have h := lv_sub hl [1, 2, 3, 0] rfl; simp only [sst, c2, c3, c4, if_true, if_false, ↓reduceIte]; exact h))
          · skip
            refine lv_iload_n hx hb dX2_stageFor_29 rfl (lv_at hl 3 rfl) ?_
            refine lv_istore_n (lv' := [(2, .int (nI t)), (0, .ref (eAd E 2)), (1, .int a), (3, .int (nI t))]) hx hb dX2_stageFor_30 rfl hl (by decide) rfl (fun ls hl => ?_)
            refine lv_iinc (v := nI (t + 1)) (lv' := [(3, .int (nI (t + 1))), (2, .int (nI t)), (0, .ref (eAd E 2)), (1, .int a)]) hx hb dX2_stageFor_31 hl (k := 3) rfl (nI_1 _) (by decide) rfl (fun ls hl => ?_)
            refine lv_goto (tgt := 5) hx hb dX2_stageFor_34 (by decide) ?_
            exact ih (t + 1) (by omega) _ _ ls (by first | exact hH | (simp only [sst, c2, c3, c4, if_true, if_false, ↓reduceIte]; exact hH)) (by first | exact lv_sub hl [2, 3, 1, 0] rfl | (have h := lv_sub hl [2, 3, 1, 0] rfl; simp only [sst, c2, c3, c4, if_true, if_false, ↓reduceIte]; exact h))
  exact loop5 ns 0 (Nat.zero_add _) _ _ ls hH (lv_sub hl [2, 3, 1, 0] rfl)

set_option maxHeartbeats 4000000 in
set_option maxRecDepth 100000 in
theorem c_X2_inletOf (l : Launch) (E : Ev) (hE : EO E) (v : Mem) (a : Int32) (b : Int32) : Ci l yX2_inletOf wsX2_inletOf ({ frames := 0, cells := 0, slots := 0, locals := 0 } : Room) E [.ref (eAd E 2), .int a, .int b] v (sinl v a b) v := by
  refine Ci.of (cc := cX2_inletOf) (maxL := 3) (ret := (some .int)) (own := RX2) (by decide) rfl rfl (Nat.le_of_ble_eq_true rfl) ?_
  intro p e s m below meth c F hr hlk ls hl hH
  obtain ⟨hx, hb, hml, hown, hts⟩ := id F.1
  have hl : lv_has ls 3 [(0, .ref (eAd E 2)), (1, .int a), (2, .int b)] := hl
  have inX2 : ∀ w ∈ wsX20, w ∈ wsX2_inletOf := fun w h => List.mem_cons_of_mem _ (List.mem_append_right _ h)
  refine lv_iload_n hx hb dX2_inletOf_0 rfl (lv_at hl 1 rfl) ?_
  refine lv_if_lt (tgt := 19) hx hb dX2_inletOf_1 (by decide) (fun c1 => ?_) (fun c1 => ?_)
  · skip
    refine lv_iload_n hx hb dX2_inletOf_19 rfl (lv_at hl 2 rfl) ?_
    exact g_iret F hr hlk hH (by first | rfl | (simp only [sinl, c1, if_true, if_false, ↓reduceIte]; done) | (simp only [sinl, c1, if_true, if_false, ↓reduceIte]; rfl)) (by first | rfl | (simp only [sinl, c1, if_true, if_false, ↓reduceIte]; done) | (simp only [sinl, c1, if_true, if_false, ↓reduceIte]; rfl)) dX2_inletOf_20
  · skip
    refine lv_iload_n hx hb dX2_inletOf_4 rfl (lv_at hl 1 rfl) ?_
    refine lv_bipush (v := 8) hx hb dX2_inletOf_5 (by decide) ?_
    refine lv_icmp_ge (tgt := 19) hx hb dX2_inletOf_7 (by decide) (fun c2 => ?_) (fun c2 => ?_)
    · skip
      refine lv_iload_n hx hb dX2_inletOf_19 rfl (lv_at hl 2 rfl) ?_
      exact g_iret F hr hlk hH (by first | rfl | (simp only [sinl, c1, c2, if_true, if_false, ↓reduceIte]; done) | (simp only [sinl, c1, c2, if_true, if_false, ↓reduceIte]; rfl)) (by first | rfl | (simp only [sinl, c1, c2, if_true, if_false, ↓reduceIte]; done) | (simp only [sinl, c1, c2, if_true, if_false, ↓reduceIte]; rfl)) dX2_inletOf_20
    · skip
      obtain ⟨q, hq, rfl⟩ : ∃ q : Nat, q < 8 ∧ a = nI q := (by have h := pk_ix a (n := 8) (by omega); rcases h with h | h | h; exact absurd h c1; exact absurd h c2; exact h)
      refine lv_aload_n hx hb dX2_inletOf_10 rfl (lv_at hl 0 rfl) ?_
      refine g_get (x := .ref (eAd E 4)) F hH inX2 (hE.1 2 (by decide)) (cq_sch E _) rfl 1 (by decide) (hts (.fieldLink RX2 15 "DryingKiln$Schedule" "inlets" "[I") (by decide +kernel)) (fun _ h => h) rfl dX2_inletOf_11 ?_
      refine lv_iload_n hx hb dX2_inletOf_14 rfl (lv_at hl 1 rfl) ?_
      refine g_iald (n := 8) (x := v 4 (nI q).toNatClampNeg) F hH (hE.1 4 (by decide)) rfl q rfl hq (by omega) (by rw [nI_clamp (by omega)]) dX2_inletOf_15 ?_
      refine lv_goto (tgt := 20) hx hb dX2_inletOf_16 (by decide) ?_
      exact g_iret F hr hlk hH (by first | rfl | (simp only [sinl, c1, c2, if_true, if_false, ↓reduceIte]; done) | (simp only [sinl, c1, c2, if_true, if_false, ↓reduceIte]; rfl)) (by first | rfl | (simp only [sinl, c1, c2, if_true, if_false, ↓reduceIte]; done) | (simp only [sinl, c1, c2, if_true, if_false, ↓reduceIte]; rfl)) dX2_inletOf_20

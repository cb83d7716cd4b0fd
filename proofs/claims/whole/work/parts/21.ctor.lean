set_option maxHeartbeats 4000000 in
set_option maxRecDepth 100000 in
theorem c_Jxa1e45_init_da8c8_8 (l : Launch) (E : Ev) (f : Nat → va_E) (hk : 8 ∈ eK E) (hf : f 8 = .inr (0, [.int 0, .null, .int 0])) : Met l yJxa1e45_init_da8c8 wsJxa1e45_init_da8c8 ({ frames := 1, cells := 0, slots := 0, locals := 24 } : Room) (va_Pc [.ref (eAd E 8)] (WF E f)) (va_Qv (fun (_ : Nat → Nat) => True) (fun u t => HF E (lf f []) t.heap) (eA E)) 0 0 (eA E) := by
  refine RF.of (cc := cJxa1e45_init_da8c8) (maxL := 1) (ret := none) (own := RJxa1e45) (by decide) rfl rfl (Nat.le_of_ble_eq_true rfl) ?_
  intro p e s m below meth c F hr hlk hin ls hl hH
  obtain ⟨hx, hb, hml, hown, hts⟩ := id F.1
  have hl : lv_has ls 1 [(0, .ref (eAd E 8))] := hl
  have hH : HFS E s.heap (lf f []) s.heap [] := hH
  refine lv_aload_n hx hb dJxa1e45_init_da8c8_0 rfl (lv_at hl 0 rfl) ?_
  refine W.objInit hx hb hown (hts (.methodLink RJxa1e45 1 objectInit) (by decide +kernel)) (hts (.instanceMethod objectInit) (by decide +kernel)) (hts (.code objectInit ⟨#[0xb1]⟩ 1 none) (by decide +kernel)) rfl (by rw [hml]; exact hl.1) rfl dJxa1e45_init_da8c8_1 (Nat.le_of_ble_eq_true rfl) (Nat.le_of_ble_eq_true rfl) ?_
  refine W.eq (g2 := F0 m 4 ls []) rfl ?_
  refine W.widen (k := 0) (n := 0) (Nat.le_of_ble_eq_true rfl) (Nat.le_of_ble_eq_true rfl) ?_
  exact W.vret hx hb hr (fun t ht hW => ⟨⟨fun _ => 0, rfl, trivial, (by show HF E (lf f []) t.heap; rw [ht]; exact hH.1)⟩, hH.2.F ht⟩) hH.2.2.2 dJxa1e45_init_da8c8_4 hlk

set_option maxHeartbeats 4000000 in
set_option maxRecDepth 100000 in
theorem c_Jxc12de_init_da8c8_8 (l : Launch) (E : Ev) (f : Nat → va_E) (hk : 8 ∈ eK E) (hf : f 8 = .inr (0, [.int 0, .null, .int 0])) : Met l yJxc12de_init_da8c8 wsJxc12de_init_da8c8 ({ frames := 2, cells := 0, slots := 0, locals := 44 } : Room) (va_Pc [.ref (eAd E 8)] (WF E f)) (va_Qv (fun (_ : Nat → Nat) => True) (fun u t => HF E (lf f [(8, .inr (0, [.int 0, .null, .int 0]))]) t.heap) (eA E)) 0 0 (eA E) := by
  refine RF.of (cc := cJxc12de_init_da8c8) (maxL := 1) (ret := none) (own := RJxc12de) (by decide) rfl rfl (Nat.le_of_ble_eq_true rfl) ?_
  intro p e s m below meth c F hr hlk hin ls hl hH
  obtain ⟨hx, hb, hml, hown, hts⟩ := id F.1
  have hl : lv_has ls 1 [(0, .ref (eAd E 8))] := hl
  have inJx4a65c : ∀ w ∈ wsJx4a65c0, w ∈ wsJxc12de_init_da8c8 := fun w h => List.mem_cons_of_mem _ (List.mem_append_right _ h)
  have hH : HFS E s.heap (lf f []) s.heap [] := hH
  refine lv_aload_n hx hb dJxc12de_init_da8c8_0 rfl (lv_at hl 0 rfl) ?_
  refine r_iv (As := []) (b := eAd E 8) F hH (c_Jxa1e45_init_da8c8_8 l E (lf f []) hk hf) (cwI 0 hts gJxc12de_init_da8c8_Jxa1e45_init_da8c8 rfl rfl rfl (hts (.initialized RJxa1e45) (by decide +kernel)) (hts (.methodLink RJxc12de 1 yJxa1e45_init_da8c8) (by decide +kernel)) (hts (.instanceMethod yJxa1e45_init_da8c8) (by decide +kernel)) rfl (by decide +kernel) ⟨Nat.le_of_ble_eq_true rfl, Nat.le_of_ble_eq_true rfl⟩) rfl hl.1 [] rfl (Nat.le_of_ble_eq_true rfl) dJxc12de_init_da8c8_1 ⟨Nat.le_of_ble_eq_true rfl, Nat.le_of_ble_eq_true rfl⟩ (fun u1 t H locs ht _ hB hS => ?_)
  have hH : HFS E s.heap (lf f []) H locs := ⟨by rw [ht, lf_mrg] at hB; exact hB, hS⟩
  have F : FX p m c cJxc12de_init_da8c8 1 s ([.ref (eAd E 8)] : List Value).toArray wsJxc12de_init_da8c8 RJxc12de E := F
  refine lv_aload_n hx hb dJxc12de_init_da8c8_4 rfl (lv_at hl 0 rfl) ?_
  refine lv_iconst (v := 0) hx hb dJxc12de_init_da8c8_5 (by decide) ?_
  refine r_put (ty := .int) (x := .int 0) F hH inJx4a65c tyJx4a65c tyJx4a65c_ok nmJx4a65c hk rfl hf rfl 0 (by decide) (hts (.fieldLink RJxc12de 7 "java/util/AbstractList" "modCount" "I") (by decide +kernel)) (fun _ h => h) rfl (by decide +kernel) rfl rfl (Nat.le_of_ble_eq_true rfl) dJxc12de_init_da8c8_6 (fun H locs hH => ?_)
  rw [lf_ups] at hH
  have hH : HFS E s.heap (lf f [(8, .inr (0, [.int 0, .null, .int 0]))]) H locs := hH
  refine W.widen (k := 0) (n := 0) (Nat.le_of_ble_eq_true rfl) (Nat.le_of_ble_eq_true rfl) ?_
  exact W.vret hx hb hr (fun t ht hW => ⟨⟨fun _ => 0, rfl, trivial, (by show HF E (lf f [(8, .inr (0, [.int 0, .null, .int 0]))]) t.heap; rw [ht]; exact hH.1)⟩, hH.2.F ht⟩) hH.2.2.2 dJxc12de_init_da8c8_9 hlk

set_option maxHeartbeats 4000000 in
set_option maxRecDepth 100000 in
theorem c_Jx4a65c_init_da8c8_8 (l : Launch) (E : Ev) (f : Nat → va_E) (hk : 8 ∈ eK E) (hf : f 8 = .inr (0, [.int 0, .null, .int 0])) : Met l yJx4a65c_init_da8c8 wsJx4a65c_init_da8c8 ({ frames := 3, cells := 0, slots := 0, locals := 64 } : Room) (va_Pc [.ref (eAd E 8)] (WF E f)) (va_Qv (fun (_ : Nat → Nat) => True) (fun u t => HF E (lf f [(8, .inr (0, [.int 0, .ref (eZ E), .int 0]))]) t.heap) (eA E)) 0 0 (eA E) := by
  refine RF.of (cc := cJx4a65c_init_da8c8) (maxL := 1) (ret := none) (own := RJx4a65c) (by decide) rfl rfl (Nat.le_of_ble_eq_true rfl) ?_
  intro p e s m below meth c F hr hlk hin ls hl hH
  obtain ⟨hx, hb, hml, hown, hts⟩ := id F.1
  have hl : lv_has ls 1 [(0, .ref (eAd E 8))] := hl
  have inJx4a65c : ∀ w ∈ wsJx4a65c0, w ∈ wsJx4a65c_init_da8c8 := fun w h => List.mem_cons_of_mem _ (List.mem_append_right _ h)
  have hH : HFS E s.heap (lf f []) s.heap [] := hH
  refine lv_aload_n hx hb dJx4a65c_init_da8c8_0 rfl (lv_at hl 0 rfl) ?_
  refine r_iv (As := []) (b := eAd E 8) F hH (c_Jxc12de_init_da8c8_8 l E (lf f []) hk hf) (cwI 0 hts gJx4a65c_init_da8c8_Jxc12de_init_da8c8 rfl rfl rfl (hts (.initialized RJxc12de) (by decide +kernel)) (hts (.methodLink RJx4a65c 1 yJxc12de_init_da8c8) (by decide +kernel)) (hts (.instanceMethod yJxc12de_init_da8c8) (by decide +kernel)) rfl (by decide +kernel) ⟨Nat.le_of_ble_eq_true rfl, Nat.le_of_ble_eq_true rfl⟩) rfl hl.1 [] rfl (Nat.le_of_ble_eq_true rfl) dJx4a65c_init_da8c8_1 ⟨Nat.le_of_ble_eq_true rfl, Nat.le_of_ble_eq_true rfl⟩ (fun u1 t H locs ht _ hB hS => ?_)
  have hH : HFS E s.heap (lf f [(8, .inr (0, [.int 0, .null, .int 0]))]) H locs := ⟨by rw [ht, lf_mrg] at hB; exact hB, hS⟩
  have F : FX p m c cJx4a65c_init_da8c8 1 s ([.ref (eAd E 8)] : List Value).toArray wsJx4a65c_init_da8c8 RJx4a65c E := F
  refine lv_aload_n hx hb dJx4a65c_init_da8c8_4 rfl (lv_at hl 0 rfl) ?_
  refine va_gets hx hb F.2.2.2.2.1 hH.2 hown (hts (.fieldLink RJx4a65c 39 "java/util/ArrayList" "DEFAULTCAPACITY_EMPTY_ELEMENTDATA" "[Ljava/lang/Object;") (by decide +kernel)) (fun _ h => h) dJx4a65c_init_da8c8_5 ?_
  refine r_put (ty := .array (.object "java/lang/Object")) (x := .ref (eZ E)) F hH inJx4a65c tyJx4a65c tyJx4a65c_ok nmJx4a65c hk rfl rfl rfl 1 (by decide) (hts (.fieldLink RJx4a65c 9 "java/util/ArrayList" "elementData" "[Ljava/lang/Object;") (by decide +kernel)) (fun _ h => h) rfl (by decide +kernel) rfl rfl (Nat.le_of_ble_eq_true rfl) dJx4a65c_init_da8c8_8 (fun H locs hH => ?_)
  rw [lf_ups] at hH
  have hH : HFS E s.heap (lf f [(8, .inr (0, [.int 0, .ref (eZ E), .int 0]))]) H locs := hH
  refine W.widen (k := 0) (n := 0) (Nat.le_of_ble_eq_true rfl) (Nat.le_of_ble_eq_true rfl) ?_
  exact W.vret hx hb hr (fun t ht hW => ⟨⟨fun _ => 0, rfl, trivial, (by show HF E (lf f [(8, .inr (0, [.int 0, .ref (eZ E), .int 0]))]) t.heap; rw [ht]; exact hH.1)⟩, hH.2.F ht⟩) hH.2.2.2 dJx4a65c_init_da8c8_11 hlk

set_option maxHeartbeats 4000000 in
set_option maxRecDepth 100000 in
theorem c_X1_init_0 (l : Launch) (E : Ev) (f : Nat → va_E) (hk : 5 ∈ eK E) (hf : f 5 = .inr (2, [.int 0, .int 0, .null])) (hn : ∀ j, j ∈ [8] → j ∉ eK E) : Met l yX1_init wsX1_init ({ frames := 4, cells := 1, slots := 3, locals := 84 } : Room) (va_Pc [.ref (eAd E 5)] (WF E f)) (va_Qv (fun (_ : Nat → Nat) => True) (fun u t => HF (eNew E 8 (u 8)) (lf f [(5, .inr (2, [.int 0, .int 0, .ref (u 8)])), (8, .inr (0, [.int 0, .ref (eZ E), .int 0]))]) t.heap) (eA E)) 1 3 (eA E) := by
  refine RF.of (cc := cX1_init) (maxL := 1) (ret := none) (own := RX1) (by decide) rfl rfl (Nat.le_of_ble_eq_true rfl) ?_
  intro p e s m below meth c F hr hlk hin ls hl hH
  obtain ⟨hx, hb, hml, hown, hts⟩ := id F.1
  have hl : lv_has ls 1 [(0, .ref (eAd E 5))] := hl
  have inX1 : ∀ w ∈ wsX10, w ∈ wsX1_init := fun w h => List.mem_cons_of_mem _ (List.mem_append_left _ (List.mem_append_right _ h))
  have inJx4a65c : ∀ w ∈ wsJx4a65c0, w ∈ wsX1_init := fun w h => List.mem_cons_of_mem _ (List.mem_append_right _ h)
  have hH : HFS E s.heap (lf f []) s.heap [] := hH
  refine lv_aload_n hx hb dX1_init_0 rfl (lv_at hl 0 rfl) ?_
  refine W.objInit hx hb hown (hts (.methodLink RX1 3 objectInit) (by decide +kernel)) (hts (.instanceMethod objectInit) (by decide +kernel)) (hts (.code objectInit ⟨#[0xb1]⟩ 1 none) (by decide +kernel)) rfl (by rw [hml]; exact hl.1) rfl dX1_init_1 (Nat.le_of_ble_eq_true rfl) (Nat.le_of_ble_eq_true rfl) ?_
  refine W.eq (g2 := F0 m 4 ls []) rfl ?_
  refine lv_aload_n hx hb dX1_init_4 rfl (lv_at hl 0 rfl) ?_
  refine lv_iconst (v := 0) hx hb dX1_init_5 (by decide) ?_
  refine r_put (ty := .boolean) (x := .int 0) F hH inX1 tyX1 tyX1_ok nmX1 hk rfl hf rfl 0 (by decide) (hts (.fieldLink RX1 9 "DryingKiln$Load" "reversed" "Z") (by decide +kernel)) (fun _ h => h) rfl (by decide +kernel) rfl rfl (Nat.le_of_ble_eq_true rfl) dX1_init_6 (fun H locs hH => ?_)
  rw [lf_ups] at hH
  have hH : HFS E s.heap (lf f [(5, .inr (2, [.int 0, .int 0, .null]))]) H locs := hH
  refine lv_aload_n hx hb dX1_init_9 rfl (lv_at hl 0 rfl) ?_
  refine lv_iconst (v := 0) hx hb dX1_init_10 (by decide) ?_
  refine r_put (ty := .int) (x := .int 0) F hH inX1 tyX1 tyX1_ok nmX1 hk rfl rfl rfl 1 (by decide) (hts (.fieldLink RX1 15 "DryingKiln$Load" "dryingHours" "I") (by decide +kernel)) (fun _ h => h) rfl (by decide +kernel) rfl rfl (Nat.le_of_ble_eq_true rfl) dX1_init_11 (fun H locs hH => ?_)
  rw [lf_ups] at hH
  have hH : HFS E s.heap (lf f [(5, .inr (2, [.int 0, .int 0, .null]))]) H locs := hH
  refine lv_aload_n hx hb dX1_init_14 rfl (lv_at hl 0 rfl) ?_
  refine r_new (C := RJx4a65c) (T := TJx4a65c) (N := 3) (ci := 0) (fs := [.int 0, .null, .int 0]) F hH 8 (hn 8 (by decide)) inJx4a65c tyJx4a65c tyJx4a65c_ok (hts (.classLink RX1 19 RJx4a65c) (by decide +kernel)) (hts (.instantiable RJx4a65c 3) (by decide +kernel)) (hts (.initialized RJx4a65c) (by decide +kernel)) rfl (fun j hj => by rcases (show j = 0 ∨ j = 1 ∨ j = 2 by omega) with rfl | rfl | rfl <;> rfl) (Nat.le_of_ble_eq_true rfl) (Nat.le_of_ble_eq_true rfl) dX1_init_15 (fun q1 H hH => ?_)
  rw [lf_ups] at hH
  have hH : HFS (eNew E 8 q1) s.heap (lf f [(5, .inr (2, [.int 0, .int 0, .null])), (8, .inr (0, [.int 0, .null, .int 0]))]) H _ := hH
  have F : FX p m c cX1_init 1 s ([.ref (eAd E 5)] : List Value).toArray wsX1_init RX1 (eNew E 8 q1) := F
  refine lv_dup hx hb dX1_init_18 rfl ?_
  refine r_iv (As := []) (b := q1) F hH (c_Jx4a65c_init_da8c8_8 l (eNew E 8 q1) (lf f [(5, .inr (2, [.int 0, .int 0, .null])), (8, .inr (0, [.int 0, .null, .int 0]))]) mem_new rfl) (cwI 0 hts gX1_init_Jx4a65c_init_da8c8 rfl rfl rfl (hts (.initialized RJx4a65c) (by decide +kernel)) (hts (.methodLink RX1 21 yJx4a65c_init_da8c8) (by decide +kernel)) (hts (.instanceMethod yJx4a65c_init_da8c8) (by decide +kernel)) rfl (by decide +kernel) ⟨Nat.le_of_ble_eq_true rfl, Nat.le_of_ble_eq_true rfl⟩) rfl hl.1 [.ref (q1), .ref (eAd E 5)] rfl (Nat.le_of_ble_eq_true rfl) dX1_init_19 ⟨Nat.le_of_ble_eq_true rfl, Nat.le_of_ble_eq_true rfl⟩ (fun u2 t H locs ht _ hB hS => ?_)
  have hH : HFS (eNew E 8 q1) s.heap (lf f [(5, .inr (2, [.int 0, .int 0, .null])), (8, .inr (0, [.int 0, .ref (eZ E), .int 0]))]) H locs := ⟨by rw [ht, lf_mrg] at hB; exact hB, hS⟩
  have F : FX p m c cX1_init 1 s ([.ref (eAd E 5)] : List Value).toArray wsX1_init RX1 (eNew E 8 q1) := F
  refine r_putF (ty := .object "java/util/ArrayList") (x := .ref q1) F hH hin inX1 tyX1 tyX1_ok nmX1 (mem_old hk) rfl rfl rfl 2 (by decide) (hts (.fieldLink RX1 22 "DryingKiln$Load" "boards" "Ljava/util/ArrayList;") (by decide +kernel)) (fun _ h => h) rfl rfl (by decide +kernel) rfl rfl (Nat.le_of_ble_eq_true rfl) dX1_init_22 (fun H locs hH => ?_)
  rw [lf_ups] at hH
  have hH : HFS (eNew E 8 q1) s.heap (lf f [(5, .inr (2, [.int 0, .int 0, .ref q1])), (8, .inr (0, [.int 0, .ref (eZ E), .int 0]))]) H locs := hH
  refine W.widen (k := 1) (n := 3) (Nat.le_of_ble_eq_true rfl) (Nat.le_of_ble_eq_true rfl) ?_
  exact W.vret hx hb hr (fun t ht hW => ⟨⟨fun k => if k = 8 then q1 else 0, rfl, trivial, (by show HF (eNew E 8 q1) (lf f [(5, .inr (2, [.int 0, .int 0, .ref q1])), (8, .inr (0, [.int 0, .ref (eZ E), .int 0]))]) t.heap; rw [ht]; exact hH.1)⟩, hH.2.F ht⟩) hH.2.2.2 dX1_init_25 hlk

set_option maxHeartbeats 4000000 in
set_option maxRecDepth 100000 in
theorem c_Jxa1e45_init_da8c8_9 (l : Launch) (E : Ev) (f : Nat → va_E) (hk : 9 ∈ eK E) (hf : f 9 = .inr (0, [.int 0, .null, .int 0])) : Met l yJxa1e45_init_da8c8 wsJxa1e45_init_da8c8 ({ frames := 1, cells := 0, slots := 0, locals := 24 } : Room) (va_Pc [.ref (eAd E 9)] (WF E f)) (va_Qv (fun (_ : Nat → Nat) => True) (fun u t => HF E (lf f []) t.heap) (eA E)) 0 0 (eA E) := by
  refine RF.of (cc := cJxa1e45_init_da8c8) (maxL := 1) (ret := none) (own := RJxa1e45) (by decide) rfl rfl (Nat.le_of_ble_eq_true rfl) ?_
  intro p e s m below meth c F hr hlk hin ls hl hH
  obtain ⟨hx, hb, hml, hown, hts⟩ := id F.1
  have hl : lv_has ls 1 [(0, .ref (eAd E 9))] := hl
  have hH : HFS E s.heap (lf f []) s.heap [] := hH
  refine lv_aload_n hx hb dJxa1e45_init_da8c8_0 rfl (lv_at hl 0 rfl) ?_
  refine W.objInit hx hb hown (hts (.methodLink RJxa1e45 1 objectInit) (by decide +kernel)) (hts (.instanceMethod objectInit) (by decide +kernel)) (hts (.code objectInit ⟨#[0xb1]⟩ 1 none) (by decide +kernel)) rfl (by rw [hml]; exact hl.1) rfl dJxa1e45_init_da8c8_1 (Nat.le_of_ble_eq_true rfl) (Nat.le_of_ble_eq_true rfl) ?_
  refine W.eq (g2 := F0 m 4 ls []) rfl ?_
  refine W.widen (k := 0) (n := 0) (Nat.le_of_ble_eq_true rfl) (Nat.le_of_ble_eq_true rfl) ?_
  exact W.vret hx hb hr (fun t ht hW => ⟨⟨fun _ => 0, rfl, trivial, (by show HF E (lf f []) t.heap; rw [ht]; exact hH.1)⟩, hH.2.F ht⟩) hH.2.2.2 dJxa1e45_init_da8c8_4 hlk

set_option maxHeartbeats 4000000 in
set_option maxRecDepth 100000 in
theorem c_Jxc12de_init_da8c8_9 (l : Launch) (E : Ev) (f : Nat → va_E) (hk : 9 ∈ eK E) (hf : f 9 = .inr (0, [.int 0, .null, .int 0])) : Met l yJxc12de_init_da8c8 wsJxc12de_init_da8c8 ({ frames := 2, cells := 0, slots := 0, locals := 44 } : Room) (va_Pc [.ref (eAd E 9)] (WF E f)) (va_Qv (fun (_ : Nat → Nat) => True) (fun u t => HF E (lf f [(9, .inr (0, [.int 0, .null, .int 0]))]) t.heap) (eA E)) 0 0 (eA E) := by
  refine RF.of (cc := cJxc12de_init_da8c8) (maxL := 1) (ret := none) (own := RJxc12de) (by decide) rfl rfl (Nat.le_of_ble_eq_true rfl) ?_
  intro p e s m below meth c F hr hlk hin ls hl hH
  obtain ⟨hx, hb, hml, hown, hts⟩ := id F.1
  have hl : lv_has ls 1 [(0, .ref (eAd E 9))] := hl
  have inJx4a65c : ∀ w ∈ wsJx4a65c0, w ∈ wsJxc12de_init_da8c8 := fun w h => List.mem_cons_of_mem _ (List.mem_append_right _ h)
  have hH : HFS E s.heap (lf f []) s.heap [] := hH
  refine lv_aload_n hx hb dJxc12de_init_da8c8_0 rfl (lv_at hl 0 rfl) ?_
  refine r_iv (As := []) (b := eAd E 9) F hH (c_Jxa1e45_init_da8c8_9 l E (lf f []) hk hf) (cwI 0 hts gJxc12de_init_da8c8_Jxa1e45_init_da8c8 rfl rfl rfl (hts (.initialized RJxa1e45) (by decide +kernel)) (hts (.methodLink RJxc12de 1 yJxa1e45_init_da8c8) (by decide +kernel)) (hts (.instanceMethod yJxa1e45_init_da8c8) (by decide +kernel)) rfl (by decide +kernel) ⟨Nat.le_of_ble_eq_true rfl, Nat.le_of_ble_eq_true rfl⟩) rfl hl.1 [] rfl (Nat.le_of_ble_eq_true rfl) dJxc12de_init_da8c8_1 ⟨Nat.le_of_ble_eq_true rfl, Nat.le_of_ble_eq_true rfl⟩ (fun u1 t H locs ht _ hB hS => ?_)
  have hH : HFS E s.heap (lf f []) H locs := ⟨by rw [ht, lf_mrg] at hB; exact hB, hS⟩
  have F : FX p m c cJxc12de_init_da8c8 1 s ([.ref (eAd E 9)] : List Value).toArray wsJxc12de_init_da8c8 RJxc12de E := F
  refine lv_aload_n hx hb dJxc12de_init_da8c8_4 rfl (lv_at hl 0 rfl) ?_
  refine lv_iconst (v := 0) hx hb dJxc12de_init_da8c8_5 (by decide) ?_
  refine r_put (ty := .int) (x := .int 0) F hH inJx4a65c tyJx4a65c tyJx4a65c_ok nmJx4a65c hk rfl hf rfl 0 (by decide) (hts (.fieldLink RJxc12de 7 "java/util/AbstractList" "modCount" "I") (by decide +kernel)) (fun _ h => h) rfl (by decide +kernel) rfl rfl (Nat.le_of_ble_eq_true rfl) dJxc12de_init_da8c8_6 (fun H locs hH => ?_)
  rw [lf_ups] at hH
  have hH : HFS E s.heap (lf f [(9, .inr (0, [.int 0, .null, .int 0]))]) H locs := hH
  refine W.widen (k := 0) (n := 0) (Nat.le_of_ble_eq_true rfl) (Nat.le_of_ble_eq_true rfl) ?_
  exact W.vret hx hb hr (fun t ht hW => ⟨⟨fun _ => 0, rfl, trivial, (by show HF E (lf f [(9, .inr (0, [.int 0, .null, .int 0]))]) t.heap; rw [ht]; exact hH.1)⟩, hH.2.F ht⟩) hH.2.2.2 dJxc12de_init_da8c8_9 hlk

set_option maxHeartbeats 4000000 in
set_option maxRecDepth 100000 in
theorem c_Jx4a65c_init_da8c8_9 (l : Launch) (E : Ev) (f : Nat → va_E) (hk : 9 ∈ eK E) (hf : f 9 = .inr (0, [.int 0, .null, .int 0])) : Met l yJx4a65c_init_da8c8 wsJx4a65c_init_da8c8 ({ frames := 3, cells := 0, slots := 0, locals := 64 } : Room) (va_Pc [.ref (eAd E 9)] (WF E f)) (va_Qv (fun (_ : Nat → Nat) => True) (fun u t => HF E (lf f [(9, .inr (0, [.int 0, .ref (eZ E), .int 0]))]) t.heap) (eA E)) 0 0 (eA E) := by
  refine RF.of (cc := cJx4a65c_init_da8c8) (maxL := 1) (ret := none) (own := RJx4a65c) (by decide) rfl rfl (Nat.le_of_ble_eq_true rfl) ?_
  intro p e s m below meth c F hr hlk hin ls hl hH
  obtain ⟨hx, hb, hml, hown, hts⟩ := id F.1
  have hl : lv_has ls 1 [(0, .ref (eAd E 9))] := hl
  have inJx4a65c : ∀ w ∈ wsJx4a65c0, w ∈ wsJx4a65c_init_da8c8 := fun w h => List.mem_cons_of_mem _ (List.mem_append_right _ h)
  have hH : HFS E s.heap (lf f []) s.heap [] := hH
  refine lv_aload_n hx hb dJx4a65c_init_da8c8_0 rfl (lv_at hl 0 rfl) ?_
  refine r_iv (As := []) (b := eAd E 9) F hH (c_Jxc12de_init_da8c8_9 l E (lf f []) hk hf) (cwI 0 hts gJx4a65c_init_da8c8_Jxc12de_init_da8c8 rfl rfl rfl (hts (.initialized RJxc12de) (by decide +kernel)) (hts (.methodLink RJx4a65c 1 yJxc12de_init_da8c8) (by decide +kernel)) (hts (.instanceMethod yJxc12de_init_da8c8) (by decide +kernel)) rfl (by decide +kernel) ⟨Nat.le_of_ble_eq_true rfl, Nat.le_of_ble_eq_true rfl⟩) rfl hl.1 [] rfl (Nat.le_of_ble_eq_true rfl) dJx4a65c_init_da8c8_1 ⟨Nat.le_of_ble_eq_true rfl, Nat.le_of_ble_eq_true rfl⟩ (fun u1 t H locs ht _ hB hS => ?_)
  have hH : HFS E s.heap (lf f [(9, .inr (0, [.int 0, .null, .int 0]))]) H locs := ⟨by rw [ht, lf_mrg] at hB; exact hB, hS⟩
  have F : FX p m c cJx4a65c_init_da8c8 1 s ([.ref (eAd E 9)] : List Value).toArray wsJx4a65c_init_da8c8 RJx4a65c E := F
  refine lv_aload_n hx hb dJx4a65c_init_da8c8_4 rfl (lv_at hl 0 rfl) ?_
  refine va_gets hx hb F.2.2.2.2.1 hH.2 hown (hts (.fieldLink RJx4a65c 39 "java/util/ArrayList" "DEFAULTCAPACITY_EMPTY_ELEMENTDATA" "[Ljava/lang/Object;") (by decide +kernel)) (fun _ h => h) dJx4a65c_init_da8c8_5 ?_
  refine r_put (ty := .array (.object "java/lang/Object")) (x := .ref (eZ E)) F hH inJx4a65c tyJx4a65c tyJx4a65c_ok nmJx4a65c hk rfl rfl rfl 1 (by decide) (hts (.fieldLink RJx4a65c 9 "java/util/ArrayList" "elementData" "[Ljava/lang/Object;") (by decide +kernel)) (fun _ h => h) rfl (by decide +kernel) rfl rfl (Nat.le_of_ble_eq_true rfl) dJx4a65c_init_da8c8_8 (fun H locs hH => ?_)
  rw [lf_ups] at hH
  have hH : HFS E s.heap (lf f [(9, .inr (0, [.int 0, .ref (eZ E), .int 0]))]) H locs := hH
  refine W.widen (k := 0) (n := 0) (Nat.le_of_ble_eq_true rfl) (Nat.le_of_ble_eq_true rfl) ?_
  exact W.vret hx hb hr (fun t ht hW => ⟨⟨fun _ => 0, rfl, trivial, (by show HF E (lf f [(9, .inr (0, [.int 0, .ref (eZ E), .int 0]))]) t.heap; rw [ht]; exact hH.1)⟩, hH.2.F ht⟩) hH.2.2.2 dJx4a65c_init_da8c8_11 hlk

set_option maxHeartbeats 4000000 in
set_option maxRecDepth 100000 in
theorem c_X1_init_1 (l : Launch) (E : Ev) (f : Nat → va_E) (hk : 6 ∈ eK E) (hf : f 6 = .inr (2, [.int 0, .int 0, .null])) (hn : ∀ j, j ∈ [9] → j ∉ eK E) : Met l yX1_init wsX1_init ({ frames := 4, cells := 1, slots := 3, locals := 84 } : Room) (va_Pc [.ref (eAd E 6)] (WF E f)) (va_Qv (fun (_ : Nat → Nat) => True) (fun u t => HF (eNew E 9 (u 9)) (lf f [(6, .inr (2, [.int 0, .int 0, .ref (u 9)])), (9, .inr (0, [.int 0, .ref (eZ E), .int 0]))]) t.heap) (eA E)) 1 3 (eA E) := by
  refine RF.of (cc := cX1_init) (maxL := 1) (ret := none) (own := RX1) (by decide) rfl rfl (Nat.le_of_ble_eq_true rfl) ?_
  intro p e s m below meth c F hr hlk hin ls hl hH
  obtain ⟨hx, hb, hml, hown, hts⟩ := id F.1
  have hl : lv_has ls 1 [(0, .ref (eAd E 6))] := hl
  have inX1 : ∀ w ∈ wsX10, w ∈ wsX1_init := fun w h => List.mem_cons_of_mem _ (List.mem_append_left _ (List.mem_append_right _ h))
  have inJx4a65c : ∀ w ∈ wsJx4a65c0, w ∈ wsX1_init := fun w h => List.mem_cons_of_mem _ (List.mem_append_right _ h)
  have hH : HFS E s.heap (lf f []) s.heap [] := hH
  refine lv_aload_n hx hb dX1_init_0 rfl (lv_at hl 0 rfl) ?_
  refine W.objInit hx hb hown (hts (.methodLink RX1 3 objectInit) (by decide +kernel)) (hts (.instanceMethod objectInit) (by decide +kernel)) (hts (.code objectInit ⟨#[0xb1]⟩ 1 none) (by decide +kernel)) rfl (by rw [hml]; exact hl.1) rfl dX1_init_1 (Nat.le_of_ble_eq_true rfl) (Nat.le_of_ble_eq_true rfl) ?_
  refine W.eq (g2 := F0 m 4 ls []) rfl ?_
  refine lv_aload_n hx hb dX1_init_4 rfl (lv_at hl 0 rfl) ?_
  refine lv_iconst (v := 0) hx hb dX1_init_5 (by decide) ?_
  refine r_put (ty := .boolean) (x := .int 0) F hH inX1 tyX1 tyX1_ok nmX1 hk rfl hf rfl 0 (by decide) (hts (.fieldLink RX1 9 "DryingKiln$Load" "reversed" "Z") (by decide +kernel)) (fun _ h => h) rfl (by decide +kernel) rfl rfl (Nat.le_of_ble_eq_true rfl) dX1_init_6 (fun H locs hH => ?_)
  rw [lf_ups] at hH
  have hH : HFS E s.heap (lf f [(6, .inr (2, [.int 0, .int 0, .null]))]) H locs := hH
  refine lv_aload_n hx hb dX1_init_9 rfl (lv_at hl 0 rfl) ?_
  refine lv_iconst (v := 0) hx hb dX1_init_10 (by decide) ?_
  refine r_put (ty := .int) (x := .int 0) F hH inX1 tyX1 tyX1_ok nmX1 hk rfl rfl rfl 1 (by decide) (hts (.fieldLink RX1 15 "DryingKiln$Load" "dryingHours" "I") (by decide +kernel)) (fun _ h => h) rfl (by decide +kernel) rfl rfl (Nat.le_of_ble_eq_true rfl) dX1_init_11 (fun H locs hH => ?_)
  rw [lf_ups] at hH
  have hH : HFS E s.heap (lf f [(6, .inr (2, [.int 0, .int 0, .null]))]) H locs := hH
  refine lv_aload_n hx hb dX1_init_14 rfl (lv_at hl 0 rfl) ?_
  refine r_new (C := RJx4a65c) (T := TJx4a65c) (N := 3) (ci := 0) (fs := [.int 0, .null, .int 0]) F hH 9 (hn 9 (by decide)) inJx4a65c tyJx4a65c tyJx4a65c_ok (hts (.classLink RX1 19 RJx4a65c) (by decide +kernel)) (hts (.instantiable RJx4a65c 3) (by decide +kernel)) (hts (.initialized RJx4a65c) (by decide +kernel)) rfl (fun j hj => by rcases (show j = 0 ∨ j = 1 ∨ j = 2 by omega) with rfl | rfl | rfl <;> rfl) (Nat.le_of_ble_eq_true rfl) (Nat.le_of_ble_eq_true rfl) dX1_init_15 (fun q1 H hH => ?_)
  rw [lf_ups] at hH
  have hH : HFS (eNew E 9 q1) s.heap (lf f [(6, .inr (2, [.int 0, .int 0, .null])), (9, .inr (0, [.int 0, .null, .int 0]))]) H _ := hH
  have F : FX p m c cX1_init 1 s ([.ref (eAd E 6)] : List Value).toArray wsX1_init RX1 (eNew E 9 q1) := F
  refine lv_dup hx hb dX1_init_18 rfl ?_
  refine r_iv (As := []) (b := q1) F hH (c_Jx4a65c_init_da8c8_9 l (eNew E 9 q1) (lf f [(6, .inr (2, [.int 0, .int 0, .null])), (9, .inr (0, [.int 0, .null, .int 0]))]) mem_new rfl) (cwI 0 hts gX1_init_Jx4a65c_init_da8c8 rfl rfl rfl (hts (.initialized RJx4a65c) (by decide +kernel)) (hts (.methodLink RX1 21 yJx4a65c_init_da8c8) (by decide +kernel)) (hts (.instanceMethod yJx4a65c_init_da8c8) (by decide +kernel)) rfl (by decide +kernel) ⟨Nat.le_of_ble_eq_true rfl, Nat.le_of_ble_eq_true rfl⟩) rfl hl.1 [.ref (q1), .ref (eAd E 6)] rfl (Nat.le_of_ble_eq_true rfl) dX1_init_19 ⟨Nat.le_of_ble_eq_true rfl, Nat.le_of_ble_eq_true rfl⟩ (fun u2 t H locs ht _ hB hS => ?_)
  have hH : HFS (eNew E 9 q1) s.heap (lf f [(6, .inr (2, [.int 0, .int 0, .null])), (9, .inr (0, [.int 0, .ref (eZ E), .int 0]))]) H locs := ⟨by rw [ht, lf_mrg] at hB; exact hB, hS⟩
  have F : FX p m c cX1_init 1 s ([.ref (eAd E 6)] : List Value).toArray wsX1_init RX1 (eNew E 9 q1) := F
  refine r_putF (ty := .object "java/util/ArrayList") (x := .ref q1) F hH hin inX1 tyX1 tyX1_ok nmX1 (mem_old hk) rfl rfl rfl 2 (by decide) (hts (.fieldLink RX1 22 "DryingKiln$Load" "boards" "Ljava/util/ArrayList;") (by decide +kernel)) (fun _ h => h) rfl rfl (by decide +kernel) rfl rfl (Nat.le_of_ble_eq_true rfl) dX1_init_22 (fun H locs hH => ?_)
  rw [lf_ups] at hH
  have hH : HFS (eNew E 9 q1) s.heap (lf f [(6, .inr (2, [.int 0, .int 0, .ref q1])), (9, .inr (0, [.int 0, .ref (eZ E), .int 0]))]) H locs := hH
  refine W.widen (k := 1) (n := 3) (Nat.le_of_ble_eq_true rfl) (Nat.le_of_ble_eq_true rfl) ?_
  exact W.vret hx hb hr (fun t ht hW => ⟨⟨fun k => if k = 9 then q1 else 0, rfl, trivial, (by show HF (eNew E 9 q1) (lf f [(6, .inr (2, [.int 0, .int 0, .ref q1])), (9, .inr (0, [.int 0, .ref (eZ E), .int 0]))]) t.heap; rw [ht]; exact hH.1)⟩, hH.2.F ht⟩) hH.2.2.2 dX1_init_25 hlk

set_option maxHeartbeats 4000000 in
set_option maxRecDepth 100000 in
theorem c_Jxa1e45_init_da8c8_10 (l : Launch) (E : Ev) (f : Nat → va_E) (hk : 10 ∈ eK E) (hf : f 10 = .inr (0, [.int 0, .null, .int 0])) : Met l yJxa1e45_init_da8c8 wsJxa1e45_init_da8c8 ({ frames := 1, cells := 0, slots := 0, locals := 24 } : Room) (va_Pc [.ref (eAd E 10)] (WF E f)) (va_Qv (fun (_ : Nat → Nat) => True) (fun u t => HF E (lf f []) t.heap) (eA E)) 0 0 (eA E) := by
  refine RF.of (cc := cJxa1e45_init_da8c8) (maxL := 1) (ret := none) (own := RJxa1e45) (by decide) rfl rfl (Nat.le_of_ble_eq_true rfl) ?_
  intro p e s m below meth c F hr hlk hin ls hl hH
  obtain ⟨hx, hb, hml, hown, hts⟩ := id F.1
  have hl : lv_has ls 1 [(0, .ref (eAd E 10))] := hl
  have hH : HFS E s.heap (lf f []) s.heap [] := hH
  refine lv_aload_n hx hb dJxa1e45_init_da8c8_0 rfl (lv_at hl 0 rfl) ?_
  refine W.objInit hx hb hown (hts (.methodLink RJxa1e45 1 objectInit) (by decide +kernel)) (hts (.instanceMethod objectInit) (by decide +kernel)) (hts (.code objectInit ⟨#[0xb1]⟩ 1 none) (by decide +kernel)) rfl (by rw [hml]; exact hl.1) rfl dJxa1e45_init_da8c8_1 (Nat.le_of_ble_eq_true rfl) (Nat.le_of_ble_eq_true rfl) ?_
  refine W.eq (g2 := F0 m 4 ls []) rfl ?_
  refine W.widen (k := 0) (n := 0) (Nat.le_of_ble_eq_true rfl) (Nat.le_of_ble_eq_true rfl) ?_
  exact W.vret hx hb hr (fun t ht hW => ⟨⟨fun _ => 0, rfl, trivial, (by show HF E (lf f []) t.heap; rw [ht]; exact hH.1)⟩, hH.2.F ht⟩) hH.2.2.2 dJxa1e45_init_da8c8_4 hlk

set_option maxHeartbeats 4000000 in
set_option maxRecDepth 100000 in
theorem c_Jxc12de_init_da8c8_10 (l : Launch) (E : Ev) (f : Nat → va_E) (hk : 10 ∈ eK E) (hf : f 10 = .inr (0, [.int 0, .null, .int 0])) : Met l yJxc12de_init_da8c8 wsJxc12de_init_da8c8 ({ frames := 2, cells := 0, slots := 0, locals := 44 } : Room) (va_Pc [.ref (eAd E 10)] (WF E f)) (va_Qv (fun (_ : Nat → Nat) => True) (fun u t => HF E (lf f [(10, .inr (0, [.int 0, .null, .int 0]))]) t.heap) (eA E)) 0 0 (eA E) := by
  refine RF.of (cc := cJxc12de_init_da8c8) (maxL := 1) (ret := none) (own := RJxc12de) (by decide) rfl rfl (Nat.le_of_ble_eq_true rfl) ?_
  intro p e s m below meth c F hr hlk hin ls hl hH
  obtain ⟨hx, hb, hml, hown, hts⟩ := id F.1
  have hl : lv_has ls 1 [(0, .ref (eAd E 10))] := hl
  have inJx4a65c : ∀ w ∈ wsJx4a65c0, w ∈ wsJxc12de_init_da8c8 := fun w h => List.mem_cons_of_mem _ (List.mem_append_right _ h)
  have hH : HFS E s.heap (lf f []) s.heap [] := hH
  refine lv_aload_n hx hb dJxc12de_init_da8c8_0 rfl (lv_at hl 0 rfl) ?_
  refine r_iv (As := []) (b := eAd E 10) F hH (c_Jxa1e45_init_da8c8_10 l E (lf f []) hk hf) (cwI 0 hts gJxc12de_init_da8c8_Jxa1e45_init_da8c8 rfl rfl rfl (hts (.initialized RJxa1e45) (by decide +kernel)) (hts (.methodLink RJxc12de 1 yJxa1e45_init_da8c8) (by decide +kernel)) (hts (.instanceMethod yJxa1e45_init_da8c8) (by decide +kernel)) rfl (by decide +kernel) ⟨Nat.le_of_ble_eq_true rfl, Nat.le_of_ble_eq_true rfl⟩) rfl hl.1 [] rfl (Nat.le_of_ble_eq_true rfl) dJxc12de_init_da8c8_1 ⟨Nat.le_of_ble_eq_true rfl, Nat.le_of_ble_eq_true rfl⟩ (fun u1 t H locs ht _ hB hS => ?_)
  have hH : HFS E s.heap (lf f []) H locs := ⟨by rw [ht, lf_mrg] at hB; exact hB, hS⟩
  have F : FX p m c cJxc12de_init_da8c8 1 s ([.ref (eAd E 10)] : List Value).toArray wsJxc12de_init_da8c8 RJxc12de E := F
  refine lv_aload_n hx hb dJxc12de_init_da8c8_4 rfl (lv_at hl 0 rfl) ?_
  refine lv_iconst (v := 0) hx hb dJxc12de_init_da8c8_5 (by decide) ?_
  refine r_put (ty := .int) (x := .int 0) F hH inJx4a65c tyJx4a65c tyJx4a65c_ok nmJx4a65c hk rfl hf rfl 0 (by decide) (hts (.fieldLink RJxc12de 7 "java/util/AbstractList" "modCount" "I") (by decide +kernel)) (fun _ h => h) rfl (by decide +kernel) rfl rfl (Nat.le_of_ble_eq_true rfl) dJxc12de_init_da8c8_6 (fun H locs hH => ?_)
  rw [lf_ups] at hH
  have hH : HFS E s.heap (lf f [(10, .inr (0, [.int 0, .null, .int 0]))]) H locs := hH
  refine W.widen (k := 0) (n := 0) (Nat.le_of_ble_eq_true rfl) (Nat.le_of_ble_eq_true rfl) ?_
  exact W.vret hx hb hr (fun t ht hW => ⟨⟨fun _ => 0, rfl, trivial, (by show HF E (lf f [(10, .inr (0, [.int 0, .null, .int 0]))]) t.heap; rw [ht]; exact hH.1)⟩, hH.2.F ht⟩) hH.2.2.2 dJxc12de_init_da8c8_9 hlk

set_option maxHeartbeats 4000000 in
set_option maxRecDepth 100000 in
theorem c_Jx4a65c_init_da8c8_10 (l : Launch) (E : Ev) (f : Nat → va_E) (hk : 10 ∈ eK E) (hf : f 10 = .inr (0, [.int 0, .null, .int 0])) : Met l yJx4a65c_init_da8c8 wsJx4a65c_init_da8c8 ({ frames := 3, cells := 0, slots := 0, locals := 64 } : Room) (va_Pc [.ref (eAd E 10)] (WF E f)) (va_Qv (fun (_ : Nat → Nat) => True) (fun u t => HF E (lf f [(10, .inr (0, [.int 0, .ref (eZ E), .int 0]))]) t.heap) (eA E)) 0 0 (eA E) := by
  refine RF.of (cc := cJx4a65c_init_da8c8) (maxL := 1) (ret := none) (own := RJx4a65c) (by decide) rfl rfl (Nat.le_of_ble_eq_true rfl) ?_
  intro p e s m below meth c F hr hlk hin ls hl hH
  obtain ⟨hx, hb, hml, hown, hts⟩ := id F.1
  have hl : lv_has ls 1 [(0, .ref (eAd E 10))] := hl
  have inJx4a65c : ∀ w ∈ wsJx4a65c0, w ∈ wsJx4a65c_init_da8c8 := fun w h => List.mem_cons_of_mem _ (List.mem_append_right _ h)
  have hH : HFS E s.heap (lf f []) s.heap [] := hH
  refine lv_aload_n hx hb dJx4a65c_init_da8c8_0 rfl (lv_at hl 0 rfl) ?_
  refine r_iv (As := []) (b := eAd E 10) F hH (c_Jxc12de_init_da8c8_10 l E (lf f []) hk hf) (cwI 0 hts gJx4a65c_init_da8c8_Jxc12de_init_da8c8 rfl rfl rfl (hts (.initialized RJxc12de) (by decide +kernel)) (hts (.methodLink RJx4a65c 1 yJxc12de_init_da8c8) (by decide +kernel)) (hts (.instanceMethod yJxc12de_init_da8c8) (by decide +kernel)) rfl (by decide +kernel) ⟨Nat.le_of_ble_eq_true rfl, Nat.le_of_ble_eq_true rfl⟩) rfl hl.1 [] rfl (Nat.le_of_ble_eq_true rfl) dJx4a65c_init_da8c8_1 ⟨Nat.le_of_ble_eq_true rfl, Nat.le_of_ble_eq_true rfl⟩ (fun u1 t H locs ht _ hB hS => ?_)
  have hH : HFS E s.heap (lf f [(10, .inr (0, [.int 0, .null, .int 0]))]) H locs := ⟨by rw [ht, lf_mrg] at hB; exact hB, hS⟩
  have F : FX p m c cJx4a65c_init_da8c8 1 s ([.ref (eAd E 10)] : List Value).toArray wsJx4a65c_init_da8c8 RJx4a65c E := F
  refine lv_aload_n hx hb dJx4a65c_init_da8c8_4 rfl (lv_at hl 0 rfl) ?_
  refine va_gets hx hb F.2.2.2.2.1 hH.2 hown (hts (.fieldLink RJx4a65c 39 "java/util/ArrayList" "DEFAULTCAPACITY_EMPTY_ELEMENTDATA" "[Ljava/lang/Object;") (by decide +kernel)) (fun _ h => h) dJx4a65c_init_da8c8_5 ?_
  refine r_put (ty := .array (.object "java/lang/Object")) (x := .ref (eZ E)) F hH inJx4a65c tyJx4a65c tyJx4a65c_ok nmJx4a65c hk rfl rfl rfl 1 (by decide) (hts (.fieldLink RJx4a65c 9 "java/util/ArrayList" "elementData" "[Ljava/lang/Object;") (by decide +kernel)) (fun _ h => h) rfl (by decide +kernel) rfl rfl (Nat.le_of_ble_eq_true rfl) dJx4a65c_init_da8c8_8 (fun H locs hH => ?_)
  rw [lf_ups] at hH
  have hH : HFS E s.heap (lf f [(10, .inr (0, [.int 0, .ref (eZ E), .int 0]))]) H locs := hH
  refine W.widen (k := 0) (n := 0) (Nat.le_of_ble_eq_true rfl) (Nat.le_of_ble_eq_true rfl) ?_
  exact W.vret hx hb hr (fun t ht hW => ⟨⟨fun _ => 0, rfl, trivial, (by show HF E (lf f [(10, .inr (0, [.int 0, .ref (eZ E), .int 0]))]) t.heap; rw [ht]; exact hH.1)⟩, hH.2.F ht⟩) hH.2.2.2 dJx4a65c_init_da8c8_11 hlk

set_option maxHeartbeats 4000000 in
set_option maxRecDepth 100000 in
theorem c_X1_init_2 (l : Launch) (E : Ev) (f : Nat → va_E) (hk : 7 ∈ eK E) (hf : f 7 = .inr (2, [.int 0, .int 0, .null])) (hn : ∀ j, j ∈ [10] → j ∉ eK E) : Met l yX1_init wsX1_init ({ frames := 4, cells := 1, slots := 3, locals := 84 } : Room) (va_Pc [.ref (eAd E 7)] (WF E f)) (va_Qv (fun (_ : Nat → Nat) => True) (fun u t => HF (eNew E 10 (u 10)) (lf f [(7, .inr (2, [.int 0, .int 0, .ref (u 10)])), (10, .inr (0, [.int 0, .ref (eZ E), .int 0]))]) t.heap) (eA E)) 1 3 (eA E) := by
  refine RF.of (cc := cX1_init) (maxL := 1) (ret := none) (own := RX1) (by decide) rfl rfl (Nat.le_of_ble_eq_true rfl) ?_
  intro p e s m below meth c F hr hlk hin ls hl hH
  obtain ⟨hx, hb, hml, hown, hts⟩ := id F.1
  have hl : lv_has ls 1 [(0, .ref (eAd E 7))] := hl
  have inX1 : ∀ w ∈ wsX10, w ∈ wsX1_init := fun w h => List.mem_cons_of_mem _ (List.mem_append_left _ (List.mem_append_right _ h))
  have inJx4a65c : ∀ w ∈ wsJx4a65c0, w ∈ wsX1_init := fun w h => List.mem_cons_of_mem _ (List.mem_append_right _ h)
  have hH : HFS E s.heap (lf f []) s.heap [] := hH
  refine lv_aload_n hx hb dX1_init_0 rfl (lv_at hl 0 rfl) ?_
  refine W.objInit hx hb hown (hts (.methodLink RX1 3 objectInit) (by decide +kernel)) (hts (.instanceMethod objectInit) (by decide +kernel)) (hts (.code objectInit ⟨#[0xb1]⟩ 1 none) (by decide +kernel)) rfl (by rw [hml]; exact hl.1) rfl dX1_init_1 (Nat.le_of_ble_eq_true rfl) (Nat.le_of_ble_eq_true rfl) ?_
  refine W.eq (g2 := F0 m 4 ls []) rfl ?_
  refine lv_aload_n hx hb dX1_init_4 rfl (lv_at hl 0 rfl) ?_
  refine lv_iconst (v := 0) hx hb dX1_init_5 (by decide) ?_
  refine r_put (ty := .boolean) (x := .int 0) F hH inX1 tyX1 tyX1_ok nmX1 hk rfl hf rfl 0 (by decide) (hts (.fieldLink RX1 9 "DryingKiln$Load" "reversed" "Z") (by decide +kernel)) (fun _ h => h) rfl (by decide +kernel) rfl rfl (Nat.le_of_ble_eq_true rfl) dX1_init_6 (fun H locs hH => ?_)
  rw [lf_ups] at hH
  have hH : HFS E s.heap (lf f [(7, .inr (2, [.int 0, .int 0, .null]))]) H locs := hH
  refine lv_aload_n hx hb dX1_init_9 rfl (lv_at hl 0 rfl) ?_
  refine lv_iconst (v := 0) hx hb dX1_init_10 (by decide) ?_
  refine r_put (ty := .int) (x := .int 0) F hH inX1 tyX1 tyX1_ok nmX1 hk rfl rfl rfl 1 (by decide) (hts (.fieldLink RX1 15 "DryingKiln$Load" "dryingHours" "I") (by decide +kernel)) (fun _ h => h) rfl (by decide +kernel) rfl rfl (Nat.le_of_ble_eq_true rfl) dX1_init_11 (fun H locs hH => ?_)
  rw [lf_ups] at hH
  have hH : HFS E s.heap (lf f [(7, .inr (2, [.int 0, .int 0, .null]))]) H locs := hH
  refine lv_aload_n hx hb dX1_init_14 rfl (lv_at hl 0 rfl) ?_
  refine r_new (C := RJx4a65c) (T := TJx4a65c) (N := 3) (ci := 0) (fs := [.int 0, .null, .int 0]) F hH 10 (hn 10 (by decide)) inJx4a65c tyJx4a65c tyJx4a65c_ok (hts (.classLink RX1 19 RJx4a65c) (by decide +kernel)) (hts (.instantiable RJx4a65c 3) (by decide +kernel)) (hts (.initialized RJx4a65c) (by decide +kernel)) rfl (fun j hj => by rcases (show j = 0 ∨ j = 1 ∨ j = 2 by omega) with rfl | rfl | rfl <;> rfl) (Nat.le_of_ble_eq_true rfl) (Nat.le_of_ble_eq_true rfl) dX1_init_15 (fun q1 H hH => ?_)
  rw [lf_ups] at hH
  have hH : HFS (eNew E 10 q1) s.heap (lf f [(7, .inr (2, [.int 0, .int 0, .null])), (10, .inr (0, [.int 0, .null, .int 0]))]) H _ := hH
  have F : FX p m c cX1_init 1 s ([.ref (eAd E 7)] : List Value).toArray wsX1_init RX1 (eNew E 10 q1) := F
  refine lv_dup hx hb dX1_init_18 rfl ?_
  refine r_iv (As := []) (b := q1) F hH (c_Jx4a65c_init_da8c8_10 l (eNew E 10 q1) (lf f [(7, .inr (2, [.int 0, .int 0, .null])), (10, .inr (0, [.int 0, .null, .int 0]))]) mem_new rfl) (cwI 0 hts gX1_init_Jx4a65c_init_da8c8 rfl rfl rfl (hts (.initialized RJx4a65c) (by decide +kernel)) (hts (.methodLink RX1 21 yJx4a65c_init_da8c8) (by decide +kernel)) (hts (.instanceMethod yJx4a65c_init_da8c8) (by decide +kernel)) rfl (by decide +kernel) ⟨Nat.le_of_ble_eq_true rfl, Nat.le_of_ble_eq_true rfl⟩) rfl hl.1 [.ref (q1), .ref (eAd E 7)] rfl (Nat.le_of_ble_eq_true rfl) dX1_init_19 ⟨Nat.le_of_ble_eq_true rfl, Nat.le_of_ble_eq_true rfl⟩ (fun u2 t H locs ht _ hB hS => ?_)
  have hH : HFS (eNew E 10 q1) s.heap (lf f [(7, .inr (2, [.int 0, .int 0, .null])), (10, .inr (0, [.int 0, .ref (eZ E), .int 0]))]) H locs := ⟨by rw [ht, lf_mrg] at hB; exact hB, hS⟩
  have F : FX p m c cX1_init 1 s ([.ref (eAd E 7)] : List Value).toArray wsX1_init RX1 (eNew E 10 q1) := F
  refine r_putF (ty := .object "java/util/ArrayList") (x := .ref q1) F hH hin inX1 tyX1 tyX1_ok nmX1 (mem_old hk) rfl rfl rfl 2 (by decide) (hts (.fieldLink RX1 22 "DryingKiln$Load" "boards" "Ljava/util/ArrayList;") (by decide +kernel)) (fun _ h => h) rfl rfl (by decide +kernel) rfl rfl (Nat.le_of_ble_eq_true rfl) dX1_init_22 (fun H locs hH => ?_)
  rw [lf_ups] at hH
  have hH : HFS (eNew E 10 q1) s.heap (lf f [(7, .inr (2, [.int 0, .int 0, .ref q1])), (10, .inr (0, [.int 0, .ref (eZ E), .int 0]))]) H locs := hH
  refine W.widen (k := 1) (n := 3) (Nat.le_of_ble_eq_true rfl) (Nat.le_of_ble_eq_true rfl) ?_
  exact W.vret hx hb hr (fun t ht hW => ⟨⟨fun k => if k = 10 then q1 else 0, rfl, trivial, (by show HF (eNew E 10 q1) (lf f [(7, .inr (2, [.int 0, .int 0, .ref q1])), (10, .inr (0, [.int 0, .ref (eZ E), .int 0]))]) t.heap; rw [ht]; exact hH.1)⟩, hH.2.F ht⟩) hH.2.2.2 dX1_init_25 hlk

set_option maxHeartbeats 4000000 in
set_option maxRecDepth 100000 in
theorem c_X3_init (l : Launch) (E : Ev) (f : Nat → va_E) (hk : 1 ∈ eK E) (hf : f 1 = .inr (4, [.int 0, .int 0, .int 0, .int 0, .int 0, .int 0])) : Met l yX3_init wsX3_init ({ frames := 1, cells := 0, slots := 0, locals := 24 } : Room) (va_Pc [.ref (eAd E 1)] (WF E f)) (va_Qv (fun (_ : Nat → Nat) => True) (fun u t => HF E (lf f [(1, .inr (4, [.int 100, .int 200, .int 50, .int 200, .int 120, .int 0]))]) t.heap) (eA E)) 0 0 (eA E) := by
  refine RF.of (cc := cX3_init) (maxL := 1) (ret := none) (own := RX3) (by decide) rfl rfl (Nat.le_of_ble_eq_true rfl) ?_
  intro p e s m below meth c F hr hlk hin ls hl hH
  obtain ⟨hx, hb, hml, hown, hts⟩ := id F.1
  have hl : lv_has ls 1 [(0, .ref (eAd E 1))] := hl
  have inX3 : ∀ w ∈ wsX30, w ∈ wsX3_init := fun w h => List.mem_cons_of_mem _ (List.mem_append_right _ h)
  have hH : HFS E s.heap (lf f []) s.heap [] := hH
  refine lv_aload_n hx hb dX3_init_0 rfl (lv_at hl 0 rfl) ?_
  refine W.objInit hx hb hown (hts (.methodLink RX3 1 objectInit) (by decide +kernel)) (hts (.instanceMethod objectInit) (by decide +kernel)) (hts (.code objectInit ⟨#[0xb1]⟩ 1 none) (by decide +kernel)) rfl (by rw [hml]; exact hl.1) rfl dX3_init_1 (Nat.le_of_ble_eq_true rfl) (Nat.le_of_ble_eq_true rfl) ?_
  refine W.eq (g2 := F0 m 4 ls []) rfl ?_
  refine lv_aload_n hx hb dX3_init_4 rfl (lv_at hl 0 rfl) ?_
  refine lv_bipush (v := 100) hx hb dX3_init_5 (by decide) ?_
  refine r_put (ty := .int) (x := .int 100) F hH inX3 tyX3 tyX3_ok nmX3 hk rfl hf rfl 0 (by decide) (hts (.fieldLink RX3 7 "DryingKiln$Settings" "diffusion" "I") (by decide +kernel)) (fun _ h => h) rfl (by decide +kernel) rfl rfl (Nat.le_of_ble_eq_true rfl) dX3_init_7 (fun H locs hH => ?_)
  rw [lf_ups] at hH
  have hH : HFS E s.heap (lf f [(1, .inr (4, [.int 100, .int 0, .int 0, .int 0, .int 0, .int 0]))]) H locs := hH
  refine lv_aload_n hx hb dX3_init_10 rfl (lv_at hl 0 rfl) ?_
  refine lv_sipush (v := 200) hx hb dX3_init_11 (by decide) ?_
  refine r_put (ty := .int) (x := .int 200) F hH inX3 tyX3 tyX3_ok nmX3 hk rfl rfl rfl 1 (by decide) (hts (.fieldLink RX3 13 "DryingKiln$Settings" "surface" "I") (by decide +kernel)) (fun _ h => h) rfl (by decide +kernel) rfl rfl (Nat.le_of_ble_eq_true rfl) dX3_init_14 (fun H locs hH => ?_)
  rw [lf_ups] at hH
  have hH : HFS E s.heap (lf f [(1, .inr (4, [.int 100, .int 200, .int 0, .int 0, .int 0, .int 0]))]) H locs := hH
  refine lv_aload_n hx hb dX3_init_17 rfl (lv_at hl 0 rfl) ?_
  refine lv_bipush (v := 50) hx hb dX3_init_18 (by decide) ?_
  refine r_put (ty := .int) (x := .int 50) F hH inX3 tyX3 tyX3_ok nmX3 hk rfl rfl rfl 2 (by decide) (hts (.fieldLink RX3 16 "DryingKiln$Settings" "capacity" "I") (by decide +kernel)) (fun _ h => h) rfl (by decide +kernel) rfl rfl (Nat.le_of_ble_eq_true rfl) dX3_init_20 (fun H locs hH => ?_)
  rw [lf_ups] at hH
  have hH : HFS E s.heap (lf f [(1, .inr (4, [.int 100, .int 200, .int 50, .int 0, .int 0, .int 0]))]) H locs := hH
  refine lv_aload_n hx hb dX3_init_23 rfl (lv_at hl 0 rfl) ?_
  refine lv_sipush (v := 200) hx hb dX3_init_24 (by decide) ?_
  refine r_put (ty := .int) (x := .int 200) F hH inX3 tyX3 tyX3_ok nmX3 hk rfl rfl rfl 3 (by decide) (hts (.fieldLink RX3 19 "DryingKiln$Settings" "strainLimit" "I") (by decide +kernel)) (fun _ h => h) rfl (by decide +kernel) rfl rfl (Nat.le_of_ble_eq_true rfl) dX3_init_27 (fun H locs hH => ?_)
  rw [lf_ups] at hH
  have hH : HFS E s.heap (lf f [(1, .inr (4, [.int 100, .int 200, .int 50, .int 200, .int 0, .int 0]))]) H locs := hH
  refine lv_aload_n hx hb dX3_init_30 rfl (lv_at hl 0 rfl) ?_
  refine lv_bipush (v := 120) hx hb dX3_init_31 (by decide) ?_
  refine r_put (ty := .int) (x := .int 120) F hH inX3 tyX3 tyX3_ok nmX3 hk rfl rfl rfl 4 (by decide) (hts (.fieldLink RX3 22 "DryingKiln$Settings" "humidity" "I") (by decide +kernel)) (fun _ h => h) rfl (by decide +kernel) rfl rfl (Nat.le_of_ble_eq_true rfl) dX3_init_33 (fun H locs hH => ?_)
  rw [lf_ups] at hH
  have hH : HFS E s.heap (lf f [(1, .inr (4, [.int 100, .int 200, .int 50, .int 200, .int 120, .int 0]))]) H locs := hH
  refine lv_aload_n hx hb dX3_init_36 rfl (lv_at hl 0 rfl) ?_
  refine lv_iconst (v := 0) hx hb dX3_init_37 (by decide) ?_
  refine r_put (ty := .int) (x := .int 0) F hH inX3 tyX3 tyX3_ok nmX3 hk rfl rfl rfl 5 (by decide) (hts (.fieldLink RX3 25 "DryingKiln$Settings" "reversalPeriod" "I") (by decide +kernel)) (fun _ h => h) rfl (by decide +kernel) rfl rfl (Nat.le_of_ble_eq_true rfl) dX3_init_38 (fun H locs hH => ?_)
  rw [lf_ups] at hH
  have hH : HFS E s.heap (lf f [(1, .inr (4, [.int 100, .int 200, .int 50, .int 200, .int 120, .int 0]))]) H locs := hH
  refine W.widen (k := 0) (n := 0) (Nat.le_of_ble_eq_true rfl) (Nat.le_of_ble_eq_true rfl) ?_
  exact W.vret hx hb hr (fun t ht hW => ⟨⟨fun _ => 0, rfl, trivial, (by show HF E (lf f [(1, .inr (4, [.int 100, .int 200, .int 50, .int 200, .int 120, .int 0]))]) t.heap; rw [ht]; exact hH.1)⟩, hH.2.F ht⟩) hH.2.2.2 dX3_init_41 hlk

set_option maxHeartbeats 4000000 in
set_option maxRecDepth 100000 in
theorem c_X2_init (l : Launch) (E : Ev) (f : Nat → va_E) (hk : 2 ∈ eK E) (hf : f 2 = .inr (3, [.null, .null, .int 0])) (hn : ∀ j, j ∈ [3, 4] → j ∉ eK E) : Met l yX2_init wsX2_init ({ frames := 1, cells := 2, slots := 16, locals := 24 } : Room) (va_Pc [.ref (eAd E 2)] (WF E f)) (va_Qv (fun (_ : Nat → Nat) => True) (fun u t => HF (eNew (eNew E 3 (u 3)) 4 (u 4)) (lf f [(3, .inl (eI E, 8, .inl (fun _ => 0))), (2, .inr (3, [.ref (u 3), .ref (u 4), .int 0])), (4, .inl (eI E, 8, .inl (fun _ => 0)))]) t.heap) (eA E)) 2 16 (eA E) := by
  refine RF.of (cc := cX2_init) (maxL := 1) (ret := none) (own := RX2) (by decide) rfl rfl (Nat.le_of_ble_eq_true rfl) ?_
  intro p e s m below meth c F hr hlk hin ls hl hH
  obtain ⟨hx, hb, hml, hown, hts⟩ := id F.1
  have hl : lv_has ls 1 [(0, .ref (eAd E 2))] := hl
  have inX2 : ∀ w ∈ wsX20, w ∈ wsX2_init := fun w h => List.mem_cons_of_mem _ (List.mem_append_right _ h)
  have hH : HFS E s.heap (lf f []) s.heap [] := hH
  refine lv_aload_n hx hb dX2_init_0 rfl (lv_at hl 0 rfl) ?_
  refine W.objInit hx hb hown (hts (.methodLink RX2 3 objectInit) (by decide +kernel)) (hts (.instanceMethod objectInit) (by decide +kernel)) (hts (.code objectInit ⟨#[0xb1]⟩ 1 none) (by decide +kernel)) rfl (by rw [hml]; exact hl.1) rfl dX2_init_1 (Nat.le_of_ble_eq_true rfl) (Nat.le_of_ble_eq_true rfl) ?_
  refine W.eq (g2 := F0 m 4 ls []) rfl ?_
  refine lv_aload_n hx hb dX2_init_4 rfl (lv_at hl 0 rfl) ?_
  refine lv_bipush (v := 8) hx hb dX2_init_5 (by decide) ?_
  refine r_newa F hH 3 (hn 3 (by decide)) (hts (.arrayClass .int) (by decide +kernel)) 8 rfl (by decide) (Nat.le_of_ble_eq_true rfl) (Nat.le_of_ble_eq_true rfl) dX2_init_7 (fun q1 H hH => ?_)
  rw [lf_ups] at hH
  have hH : HFS (eNew E 3 q1) s.heap (lf f [(3, .inl (eI E, 8, .inl (fun _ => 0)))]) H _ := hH
  have F : FX p m c cX2_init 1 s ([.ref (eAd E 2)] : List Value).toArray wsX2_init RX2 (eNew E 3 q1) := F
  refine r_putF (ty := .array .int) (x := .ref q1) F hH hin inX2 tyX2 tyX2_ok nmX2 (mem_old hk) rfl hf rfl 0 (by decide) (hts (.fieldLink RX2 9 "DryingKiln$Schedule" "thresholds" "[I") (by decide +kernel)) (fun _ h => h) rfl rfl (by decide +kernel) rfl rfl (Nat.le_of_ble_eq_true rfl) dX2_init_9 (fun H locs hH => ?_)
  rw [lf_ups] at hH
  have hH : HFS (eNew E 3 q1) s.heap (lf f [(3, .inl (eI E, 8, .inl (fun _ => 0))), (2, .inr (3, [.ref q1, .null, .int 0]))]) H locs := hH
  refine lv_aload_n hx hb dX2_init_12 rfl (lv_at hl 0 rfl) ?_
  refine lv_bipush (v := 8) hx hb dX2_init_13 (by decide) ?_
  refine r_newa F hH 4 (not_new (hn 4 (by decide)) (by decide)) (hts (.arrayClass .int) (by decide +kernel)) 8 rfl (by decide) (Nat.le_of_ble_eq_true rfl) (Nat.le_of_ble_eq_true rfl) dX2_init_15 (fun q2 H hH => ?_)
  rw [lf_ups] at hH
  have hH : HFS (eNew (eNew E 3 q1) 4 q2) s.heap (lf f [(3, .inl (eI E, 8, .inl (fun _ => 0))), (2, .inr (3, [.ref q1, .null, .int 0])), (4, .inl (eI E, 8, .inl (fun _ => 0)))]) H _ := hH
  have F : FX p m c cX2_init 1 s ([.ref (eAd E 2)] : List Value).toArray wsX2_init RX2 (eNew (eNew E 3 q1) 4 q2) := F
  refine r_putF (ty := .array .int) (x := .ref q2) F hH hin inX2 tyX2 tyX2_ok nmX2 (mem_old (mem_old hk)) rfl rfl rfl 1 (by decide) (hts (.fieldLink RX2 15 "DryingKiln$Schedule" "inlets" "[I") (by decide +kernel)) (fun _ h => h) rfl rfl (by decide +kernel) rfl rfl (Nat.le_of_ble_eq_true rfl) dX2_init_17 (fun H locs hH => ?_)
  rw [lf_ups] at hH
  have hH : HFS (eNew (eNew E 3 q1) 4 q2) s.heap (lf f [(3, .inl (eI E, 8, .inl (fun _ => 0))), (2, .inr (3, [.ref q1, .ref q2, .int 0])), (4, .inl (eI E, 8, .inl (fun _ => 0)))]) H locs := hH
  refine lv_aload_n hx hb dX2_init_20 rfl (lv_at hl 0 rfl) ?_
  refine lv_iconst (v := 0) hx hb dX2_init_21 (by decide) ?_
  refine r_put (ty := .int) (x := .int 0) F hH inX2 tyX2 tyX2_ok nmX2 (mem_old (mem_old hk)) rfl rfl rfl 2 (by decide) (hts (.fieldLink RX2 18 "DryingKiln$Schedule" "size" "I") (by decide +kernel)) (fun _ h => h) rfl (by decide +kernel) rfl rfl (Nat.le_of_ble_eq_true rfl) dX2_init_22 (fun H locs hH => ?_)
  rw [lf_ups] at hH
  have hH : HFS (eNew (eNew E 3 q1) 4 q2) s.heap (lf f [(3, .inl (eI E, 8, .inl (fun _ => 0))), (2, .inr (3, [.ref q1, .ref q2, .int 0])), (4, .inl (eI E, 8, .inl (fun _ => 0)))]) H locs := hH
  refine W.widen (k := 2) (n := 16) (Nat.le_of_ble_eq_true rfl) (Nat.le_of_ble_eq_true rfl) ?_
  exact W.vret hx hb hr (fun t ht hW => ⟨⟨fun k => if k = 3 then q1 else if k = 4 then q2 else 0, rfl, trivial, (by show HF (eNew (eNew E 3 q1) 4 q2) (lf f [(3, .inl (eI E, 8, .inl (fun _ => 0))), (2, .inr (3, [.ref q1, .ref q2, .int 0])), (4, .inl (eI E, 8, .inl (fun _ => 0)))]) t.heap; rw [ht]; exact hH.1)⟩, hH.2.F ht⟩) hH.2.2.2 dX2_init_25 hlk

set_option maxHeartbeats 4000000 in
set_option maxRecDepth 100000 in
theorem c_X4_init (l : Launch) (E : Ev) (f : Nat → va_E) (hk : 0 ∈ eK E) (hf : f 0 = .inr (5, [.null, .null, .null, .null, .null, .null, .int 0, .int 0])) (hn : ∀ j, j ∈ [1, 2, 3, 4, 5, 8, 6, 9, 7, 10, 11] → j ∉ eK E) : Met l yX4_init wsX4_init ({ frames := 5, cells := 11, slots := 343, locals := 104 } : Room) (va_Pc [.ref (eAd E 0)] (WF E f)) (va_Qv (fun (_ : Nat → Nat) => True) (fun u t => HF (eNew (eNew (eNew (eNew (eNew (eNew (eNew (eNew (eNew (eNew (eNew E 1 (u 1)) 2 (u 2)) 3 (u 3)) 4 (u 4)) 5 (u 5)) 8 (u 8)) 6 (u 6)) 9 (u 9)) 7 (u 7)) 10 (u 10)) 11 (u 11)) (lf f [(1, .inr (4, [.int 100, .int 200, .int 50, .int 200, .int 120, .int 0])), (0, .inr (5, [.ref (u 1), .ref (u 2), .ref (u 5), .ref (u 6), .ref (u 7), .ref (u 11), .int 0, .int 0])), (2, .inr (3, [.ref (u 3), .ref (u 4), .int 0])), (4, .inl (eI E, 8, .inl (fun _ => 0))), (3, .inl (eI E, 8, .inl (fun _ => 0))), (5, .inr (2, [.int 0, .int 0, .ref (u 8)])), (8, .inr (0, [.int 0, .ref (eZ E), .int 0])), (6, .inr (2, [.int 0, .int 0, .ref (u 9)])), (9, .inr (0, [.int 0, .ref (eZ E), .int 0])), (7, .inr (2, [.int 0, .int 0, .ref (u 10)])), (10, .inr (0, [.int 0, .ref (eZ E), .int 0])), (11, .inl (eI E, 300, .inl (fun _ => 0)))]) t.heap) (eA E)) 11 343 (eA E) := by
  refine RF.of (cc := cX4_init) (maxL := 1) (ret := none) (own := RX4) (by decide) rfl rfl (Nat.le_of_ble_eq_true rfl) ?_
  intro p e s m below meth c F hr hlk hin ls hl hH
  obtain ⟨hx, hb, hml, hown, hts⟩ := id F.1
  have hl : lv_has ls 1 [(0, .ref (eAd E 0))] := hl
  have inX1 : ∀ w ∈ wsX10, w ∈ wsX4_init := fun w h => List.mem_cons_of_mem _ (List.mem_append_left _ (List.mem_append_right _ h))
  have inX2 : ∀ w ∈ wsX20, w ∈ wsX4_init := fun w h => List.mem_cons_of_mem _ (List.mem_append_left _ (List.mem_append_left _ (List.mem_append_right _ h)))
  have inX3 : ∀ w ∈ wsX30, w ∈ wsX4_init := fun w h => List.mem_cons_of_mem _ (List.mem_append_left _ (List.mem_append_left _ (List.mem_append_left _ (List.mem_append_left _ (List.mem_append_right _ h)))))
  have inX4 : ∀ w ∈ wsX40, w ∈ wsX4_init := fun w h => List.mem_cons_of_mem _ (List.mem_append_left _ (List.mem_append_left _ (List.mem_append_left _ (List.mem_append_right _ h))))
  have inJx4a65c : ∀ w ∈ wsJx4a65c0, w ∈ wsX4_init := fun w h => List.mem_cons_of_mem _ (List.mem_append_right _ h)
  have hH : HFS E s.heap (lf f []) s.heap [] := hH
  refine lv_aload_n hx hb dX4_init_0 rfl (lv_at hl 0 rfl) ?_
  refine W.objInit hx hb hown (hts (.methodLink RX4 1 objectInit) (by decide +kernel)) (hts (.instanceMethod objectInit) (by decide +kernel)) (hts (.code objectInit ⟨#[0xb1]⟩ 1 none) (by decide +kernel)) rfl (by rw [hml]; exact hl.1) rfl dX4_init_1 (Nat.le_of_ble_eq_true rfl) (Nat.le_of_ble_eq_true rfl) ?_
  refine W.eq (g2 := F0 m 4 ls []) rfl ?_
  refine lv_aload_n hx hb dX4_init_4 rfl (lv_at hl 0 rfl) ?_
  refine r_new (C := RX3) (T := TX3) (N := 6) (ci := 4) (fs := [.int 0, .int 0, .int 0, .int 0, .int 0, .int 0]) F hH 1 (hn 1 (by decide)) inX3 tyX3 tyX3_ok (hts (.classLink RX4 7 RX3) (by decide +kernel)) (hts (.instantiable RX3 6) (by decide +kernel)) (hts (.initialized RX3) (by decide +kernel)) rfl (fun j hj => by rcases (show j = 0 ∨ j = 1 ∨ j = 2 ∨ j = 3 ∨ j = 4 ∨ j = 5 by omega) with rfl | rfl | rfl | rfl | rfl | rfl <;> rfl) (Nat.le_of_ble_eq_true rfl) (Nat.le_of_ble_eq_true rfl) dX4_init_5 (fun q1 H hH => ?_)
  rw [lf_ups] at hH
  have hH : HFS (eNew E 1 q1) s.heap (lf f [(1, .inr (4, [.int 0, .int 0, .int 0, .int 0, .int 0, .int 0]))]) H _ := hH
  have F : FX p m c cX4_init 1 s ([.ref (eAd E 0)] : List Value).toArray wsX4_init RX4 (eNew E 1 q1) := F
  refine lv_dup hx hb dX4_init_8 rfl ?_
  refine r_inv (As := []) (b := q1) F hH (c_X3_init l (eNew E 1 q1) (lf f [(1, .inr (4, [.int 0, .int 0, .int 0, .int 0, .int 0, .int 0]))]) mem_new rfl) ⟨va_cnB 0 hts gX4_init_X3_init_n9 rfl rfl rfl F.2.2.2.1.2.2.2.2.1 (hts (.initialized RX3) (by decide +kernel)) (by decide +kernel) ⟨Nat.le_of_ble_eq_true rfl, Nat.le_of_ble_eq_true rfl⟩, rfl, (hts (.instanceMethod yX3_init) (by decide +kernel))⟩ rfl hl.1 [.ref (q1), .ref (eAd E 0)] rfl (Nat.le_of_ble_eq_true rfl) dX4_init_9 ⟨Nat.le_of_ble_eq_true rfl, Nat.le_of_ble_eq_true rfl⟩ (fun u2 t H locs ht _ hB hS => ?_)
  have hH : HFS (eNew E 1 q1) s.heap (lf f [(1, .inr (4, [.int 100, .int 200, .int 50, .int 200, .int 120, .int 0]))]) H locs := ⟨by rw [ht, lf_mrg] at hB; exact hB, hS⟩
  have F : FX p m c cX4_init 1 s ([.ref (eAd E 0)] : List Value).toArray wsX4_init RX4 (eNew E 1 q1) := F
  refine r_putF (ty := .object "DryingKiln$Settings") (x := .ref q1) F hH hin inX4 tyX4 tyX4_ok nmX4 (mem_old hk) rfl hf rfl 0 (by decide) (hts (.fieldLink RX4 10 "DryingKiln" "settings" "LDryingKiln$Settings;") (by decide +kernel)) (fun _ h => h) rfl rfl (by decide +kernel) rfl rfl (Nat.le_of_ble_eq_true rfl) dX4_init_12 (fun H locs hH => ?_)
  rw [lf_ups] at hH
  have hH : HFS (eNew E 1 q1) s.heap (lf f [(1, .inr (4, [.int 100, .int 200, .int 50, .int 200, .int 120, .int 0])), (0, .inr (5, [.ref q1, .null, .null, .null, .null, .null, .int 0, .int 0]))]) H locs := hH
  refine lv_aload_n hx hb dX4_init_15 rfl (lv_at hl 0 rfl) ?_
  refine r_new (C := RX2) (T := TX2) (N := 3) (ci := 3) (fs := [.null, .null, .int 0]) F hH 2 (not_new (hn 2 (by decide)) (by decide)) inX2 tyX2 tyX2_ok (hts (.classLink RX4 16 RX2) (by decide +kernel)) (hts (.instantiable RX2 3) (by decide +kernel)) (hts (.initialized RX2) (by decide +kernel)) rfl (fun j hj => by rcases (show j = 0 ∨ j = 1 ∨ j = 2 by omega) with rfl | rfl | rfl <;> rfl) (Nat.le_of_ble_eq_true rfl) (Nat.le_of_ble_eq_true rfl) dX4_init_16 (fun q3 H hH => ?_)
  rw [lf_ups] at hH
  have hH : HFS (eNew (eNew E 1 q1) 2 q3) s.heap (lf f [(1, .inr (4, [.int 100, .int 200, .int 50, .int 200, .int 120, .int 0])), (0, .inr (5, [.ref q1, .null, .null, .null, .null, .null, .int 0, .int 0])), (2, .inr (3, [.null, .null, .int 0]))]) H _ := hH
  have F : FX p m c cX4_init 1 s ([.ref (eAd E 0)] : List Value).toArray wsX4_init RX4 (eNew (eNew E 1 q1) 2 q3) := F
  refine lv_dup hx hb dX4_init_19 rfl ?_
  refine r_inv (As := []) (b := q3) F hH (c_X2_init l (eNew (eNew E 1 q1) 2 q3) (lf f [(1, .inr (4, [.int 100, .int 200, .int 50, .int 200, .int 120, .int 0])), (0, .inr (5, [.ref q1, .null, .null, .null, .null, .null, .int 0, .int 0])), (2, .inr (3, [.null, .null, .int 0]))]) mem_new rfl (by intro j hj; simp only [List.mem_cons, List.not_mem_nil, or_false] at hj; rcases hj with rfl | rfl <;> exact (not_new (not_new (hn _ (by decide)) (by decide)) (by decide)))) ⟨va_cnB 0 hts gX4_init_X2_init_n18 rfl rfl rfl F.2.2.2.1.2.2.2.2.2.1 (hts (.initialized RX2) (by decide +kernel)) (by decide +kernel) ⟨Nat.le_of_ble_eq_true rfl, Nat.le_of_ble_eq_true rfl⟩, rfl, (hts (.instanceMethod yX2_init) (by decide +kernel))⟩ rfl hl.1 [.ref (q3), .ref (eAd E 0)] rfl (Nat.le_of_ble_eq_true rfl) dX4_init_20 ⟨Nat.le_of_ble_eq_true rfl, Nat.le_of_ble_eq_true rfl⟩ (fun u4 t H locs ht _ hB hS => ?_)
  have hH : HFS (eNew (eNew (eNew (eNew E 1 q1) 2 q3) 3 (u4 3)) 4 (u4 4)) s.heap (lf f [(1, .inr (4, [.int 100, .int 200, .int 50, .int 200, .int 120, .int 0])), (0, .inr (5, [.ref q1, .null, .null, .null, .null, .null, .int 0, .int 0])), (2, .inr (3, [.ref (u4 3), .ref (u4 4), .int 0])), (4, .inl (eI E, 8, .inl (fun _ => 0))), (3, .inl (eI E, 8, .inl (fun _ => 0)))]) H locs := ⟨by rw [ht, lf_mrg] at hB; exact hB, hS⟩
  have F : FX p m c cX4_init 1 s ([.ref (eAd E 0)] : List Value).toArray wsX4_init RX4 (eNew (eNew (eNew (eNew E 1 q1) 2 q3) 3 (u4 3)) 4 (u4 4)) := F
  refine r_putF (ty := .object "DryingKiln$Schedule") (x := .ref q3) F hH hin inX4 tyX4 tyX4_ok nmX4 (mem_old (mem_old (mem_old (mem_old hk)))) rfl rfl rfl 1 (by decide) (hts (.fieldLink RX4 19 "DryingKiln" "schedule" "LDryingKiln$Schedule;") (by decide +kernel)) (fun _ h => h) rfl rfl (by decide +kernel) rfl rfl (Nat.le_of_ble_eq_true rfl) dX4_init_23 (fun H locs hH => ?_)
  rw [lf_ups] at hH
  have hH : HFS (eNew (eNew (eNew (eNew E 1 q1) 2 q3) 3 (u4 3)) 4 (u4 4)) s.heap (lf f [(1, .inr (4, [.int 100, .int 200, .int 50, .int 200, .int 120, .int 0])), (0, .inr (5, [.ref q1, .ref q3, .null, .null, .null, .null, .int 0, .int 0])), (2, .inr (3, [.ref (u4 3), .ref (u4 4), .int 0])), (4, .inl (eI E, 8, .inl (fun _ => 0))), (3, .inl (eI E, 8, .inl (fun _ => 0)))]) H locs := hH
  refine lv_aload_n hx hb dX4_init_26 rfl (lv_at hl 0 rfl) ?_
  refine r_new (C := RX1) (T := TX1) (N := 3) (ci := 2) (fs := [.int 0, .int 0, .null]) F hH 5 (not_new (not_new (not_new (not_new (hn 5 (by decide)) (by decide)) (by decide)) (by decide)) (by decide)) inX1 tyX1 tyX1_ok (hts (.classLink RX4 23 RX1) (by decide +kernel)) (hts (.instantiable RX1 3) (by decide +kernel)) (hts (.initialized RX1) (by decide +kernel)) rfl (fun j hj => by rcases (show j = 0 ∨ j = 1 ∨ j = 2 by omega) with rfl | rfl | rfl <;> rfl) (Nat.le_of_ble_eq_true rfl) (Nat.le_of_ble_eq_true rfl) dX4_init_27 (fun q5 H hH => ?_)
  rw [lf_ups] at hH
  have hH : HFS (eNew (eNew (eNew (eNew (eNew E 1 q1) 2 q3) 3 (u4 3)) 4 (u4 4)) 5 q5) s.heap (lf f [(1, .inr (4, [.int 100, .int 200, .int 50, .int 200, .int 120, .int 0])), (0, .inr (5, [.ref q1, .ref q3, .null, .null, .null, .null, .int 0, .int 0])), (2, .inr (3, [.ref (u4 3), .ref (u4 4), .int 0])), (4, .inl (eI E, 8, .inl (fun _ => 0))), (3, .inl (eI E, 8, .inl (fun _ => 0))), (5, .inr (2, [.int 0, .int 0, .null]))]) H _ := hH
  have F : FX p m c cX4_init 1 s ([.ref (eAd E 0)] : List Value).toArray wsX4_init RX4 (eNew (eNew (eNew (eNew (eNew E 1 q1) 2 q3) 3 (u4 3)) 4 (u4 4)) 5 q5) := F
  refine lv_dup hx hb dX4_init_30 rfl ?_
  refine r_inv (As := []) (b := q5) F hH (c_X1_init_0 l (eNew (eNew (eNew (eNew (eNew E 1 q1) 2 q3) 3 (u4 3)) 4 (u4 4)) 5 q5) (lf f [(1, .inr (4, [.int 100, .int 200, .int 50, .int 200, .int 120, .int 0])), (0, .inr (5, [.ref q1, .ref q3, .null, .null, .null, .null, .int 0, .int 0])), (2, .inr (3, [.ref (u4 3), .ref (u4 4), .int 0])), (4, .inl (eI E, 8, .inl (fun _ => 0))), (3, .inl (eI E, 8, .inl (fun _ => 0))), (5, .inr (2, [.int 0, .int 0, .null]))]) mem_new rfl (by intro j hj; simp only [List.mem_cons, List.not_mem_nil, or_false] at hj; rcases hj with rfl <;> exact (not_new (not_new (not_new (not_new (not_new (hn _ (by decide)) (by decide)) (by decide)) (by decide)) (by decide)) (by decide)))) ⟨va_cnB 0 hts gX4_init_X1_init_n25 rfl rfl rfl F.2.2.2.1.2.2.2.2.2.2 (hts (.initialized RX1) (by decide +kernel)) (by decide +kernel) ⟨Nat.le_of_ble_eq_true rfl, Nat.le_of_ble_eq_true rfl⟩, rfl, (hts (.instanceMethod yX1_init) (by decide +kernel))⟩ rfl hl.1 [.ref (q5), .ref (eAd E 0)] rfl (Nat.le_of_ble_eq_true rfl) dX4_init_31 ⟨Nat.le_of_ble_eq_true rfl, Nat.le_of_ble_eq_true rfl⟩ (fun u6 t H locs ht _ hB hS => ?_)
  have hH : HFS (eNew (eNew (eNew (eNew (eNew (eNew E 1 q1) 2 q3) 3 (u4 3)) 4 (u4 4)) 5 q5) 8 (u6 8)) s.heap (lf f [(1, .inr (4, [.int 100, .int 200, .int 50, .int 200, .int 120, .int 0])), (0, .inr (5, [.ref q1, .ref q3, .null, .null, .null, .null, .int 0, .int 0])), (2, .inr (3, [.ref (u4 3), .ref (u4 4), .int 0])), (4, .inl (eI E, 8, .inl (fun _ => 0))), (3, .inl (eI E, 8, .inl (fun _ => 0))), (5, .inr (2, [.int 0, .int 0, .ref (u6 8)])), (8, .inr (0, [.int 0, .ref (eZ E), .int 0]))]) H locs := ⟨by rw [ht, lf_mrg] at hB; exact hB, hS⟩
  have F : FX p m c cX4_init 1 s ([.ref (eAd E 0)] : List Value).toArray wsX4_init RX4 (eNew (eNew (eNew (eNew (eNew (eNew E 1 q1) 2 q3) 3 (u4 3)) 4 (u4 4)) 5 q5) 8 (u6 8)) := F
  refine r_putF (ty := .object "DryingKiln$Load") (x := .ref q5) F hH hin inX4 tyX4 tyX4_ok nmX4 (mem_old (mem_old (mem_old (mem_old (mem_old (mem_old hk)))))) rfl rfl rfl 2 (by decide) (hts (.fieldLink RX4 26 "DryingKiln" "load" "LDryingKiln$Load;") (by decide +kernel)) (fun _ h => h) rfl rfl (by decide +kernel) rfl rfl (Nat.le_of_ble_eq_true rfl) dX4_init_34 (fun H locs hH => ?_)
  rw [lf_ups] at hH
  have hH : HFS (eNew (eNew (eNew (eNew (eNew (eNew E 1 q1) 2 q3) 3 (u4 3)) 4 (u4 4)) 5 q5) 8 (u6 8)) s.heap (lf f [(1, .inr (4, [.int 100, .int 200, .int 50, .int 200, .int 120, .int 0])), (0, .inr (5, [.ref q1, .ref q3, .ref q5, .null, .null, .null, .int 0, .int 0])), (2, .inr (3, [.ref (u4 3), .ref (u4 4), .int 0])), (4, .inl (eI E, 8, .inl (fun _ => 0))), (3, .inl (eI E, 8, .inl (fun _ => 0))), (5, .inr (2, [.int 0, .int 0, .ref (u6 8)])), (8, .inr (0, [.int 0, .ref (eZ E), .int 0]))]) H locs := hH
  refine lv_aload_n hx hb dX4_init_37 rfl (lv_at hl 0 rfl) ?_
  refine r_new (C := RX1) (T := TX1) (N := 3) (ci := 2) (fs := [.int 0, .int 0, .null]) F hH 6 (not_new (not_new (not_new (not_new (not_new (not_new (hn 6 (by decide)) (by decide)) (by decide)) (by decide)) (by decide)) (by decide)) (by decide)) inX1 tyX1 tyX1_ok (hts (.classLink RX4 23 RX1) (by decide +kernel)) (hts (.instantiable RX1 3) (by decide +kernel)) (hts (.initialized RX1) (by decide +kernel)) rfl (fun j hj => by rcases (show j = 0 ∨ j = 1 ∨ j = 2 by omega) with rfl | rfl | rfl <;> rfl) (Nat.le_of_ble_eq_true rfl) (Nat.le_of_ble_eq_true rfl) dX4_init_38 (fun q7 H hH => ?_)
  rw [lf_ups] at hH
  have hH : HFS (eNew (eNew (eNew (eNew (eNew (eNew (eNew E 1 q1) 2 q3) 3 (u4 3)) 4 (u4 4)) 5 q5) 8 (u6 8)) 6 q7) s.heap (lf f [(1, .inr (4, [.int 100, .int 200, .int 50, .int 200, .int 120, .int 0])), (0, .inr (5, [.ref q1, .ref q3, .ref q5, .null, .null, .null, .int 0, .int 0])), (2, .inr (3, [.ref (u4 3), .ref (u4 4), .int 0])), (4, .inl (eI E, 8, .inl (fun _ => 0))), (3, .inl (eI E, 8, .inl (fun _ => 0))), (5, .inr (2, [.int 0, .int 0, .ref (u6 8)])), (8, .inr (0, [.int 0, .ref (eZ E), .int 0])), (6, .inr (2, [.int 0, .int 0, .null]))]) H _ := hH
  have F : FX p m c cX4_init 1 s ([.ref (eAd E 0)] : List Value).toArray wsX4_init RX4 (eNew (eNew (eNew (eNew (eNew (eNew (eNew E 1 q1) 2 q3) 3 (u4 3)) 4 (u4 4)) 5 q5) 8 (u6 8)) 6 q7) := F
  refine lv_dup hx hb dX4_init_41 rfl ?_
  refine r_inv (As := []) (b := q7) F hH (c_X1_init_1 l (eNew (eNew (eNew (eNew (eNew (eNew (eNew E 1 q1) 2 q3) 3 (u4 3)) 4 (u4 4)) 5 q5) 8 (u6 8)) 6 q7) (lf f [(1, .inr (4, [.int 100, .int 200, .int 50, .int 200, .int 120, .int 0])), (0, .inr (5, [.ref q1, .ref q3, .ref q5, .null, .null, .null, .int 0, .int 0])), (2, .inr (3, [.ref (u4 3), .ref (u4 4), .int 0])), (4, .inl (eI E, 8, .inl (fun _ => 0))), (3, .inl (eI E, 8, .inl (fun _ => 0))), (5, .inr (2, [.int 0, .int 0, .ref (u6 8)])), (8, .inr (0, [.int 0, .ref (eZ E), .int 0])), (6, .inr (2, [.int 0, .int 0, .null]))]) mem_new rfl (by intro j hj; simp only [List.mem_cons, List.not_mem_nil, or_false] at hj; rcases hj with rfl <;> exact (not_new (not_new (not_new (not_new (not_new (not_new (not_new (hn _ (by decide)) (by decide)) (by decide)) (by decide)) (by decide)) (by decide)) (by decide)) (by decide)))) ⟨va_cnB 0 hts gX4_init_X1_init_n25 rfl rfl rfl F.2.2.2.1.2.2.2.2.2.2 (hts (.initialized RX1) (by decide +kernel)) (by decide +kernel) ⟨Nat.le_of_ble_eq_true rfl, Nat.le_of_ble_eq_true rfl⟩, rfl, (hts (.instanceMethod yX1_init) (by decide +kernel))⟩ rfl hl.1 [.ref (q7), .ref (eAd E 0)] rfl (Nat.le_of_ble_eq_true rfl) dX4_init_42 ⟨Nat.le_of_ble_eq_true rfl, Nat.le_of_ble_eq_true rfl⟩ (fun u8 t H locs ht _ hB hS => ?_)
  have hH : HFS (eNew (eNew (eNew (eNew (eNew (eNew (eNew (eNew E 1 q1) 2 q3) 3 (u4 3)) 4 (u4 4)) 5 q5) 8 (u6 8)) 6 q7) 9 (u8 9)) s.heap (lf f [(1, .inr (4, [.int 100, .int 200, .int 50, .int 200, .int 120, .int 0])), (0, .inr (5, [.ref q1, .ref q3, .ref q5, .null, .null, .null, .int 0, .int 0])), (2, .inr (3, [.ref (u4 3), .ref (u4 4), .int 0])), (4, .inl (eI E, 8, .inl (fun _ => 0))), (3, .inl (eI E, 8, .inl (fun _ => 0))), (5, .inr (2, [.int 0, .int 0, .ref (u6 8)])), (8, .inr (0, [.int 0, .ref (eZ E), .int 0])), (6, .inr (2, [.int 0, .int 0, .ref (u8 9)])), (9, .inr (0, [.int 0, .ref (eZ E), .int 0]))]) H locs := ⟨by rw [ht, lf_mrg] at hB; exact hB, hS⟩
  have F : FX p m c cX4_init 1 s ([.ref (eAd E 0)] : List Value).toArray wsX4_init RX4 (eNew (eNew (eNew (eNew (eNew (eNew (eNew (eNew E 1 q1) 2 q3) 3 (u4 3)) 4 (u4 4)) 5 q5) 8 (u6 8)) 6 q7) 9 (u8 9)) := F
  refine r_putF (ty := .object "DryingKiln$Load") (x := .ref q7) F hH hin inX4 tyX4 tyX4_ok nmX4 (mem_old (mem_old (mem_old (mem_old (mem_old (mem_old (mem_old (mem_old hk)))))))) rfl rfl rfl 3 (by decide) (hts (.fieldLink RX4 30 "DryingKiln" "planned" "LDryingKiln$Load;") (by decide +kernel)) (fun _ h => h) rfl rfl (by decide +kernel) rfl rfl (Nat.le_of_ble_eq_true rfl) dX4_init_45 (fun H locs hH => ?_)
  rw [lf_ups] at hH
  have hH : HFS (eNew (eNew (eNew (eNew (eNew (eNew (eNew (eNew E 1 q1) 2 q3) 3 (u4 3)) 4 (u4 4)) 5 q5) 8 (u6 8)) 6 q7) 9 (u8 9)) s.heap (lf f [(1, .inr (4, [.int 100, .int 200, .int 50, .int 200, .int 120, .int 0])), (0, .inr (5, [.ref q1, .ref q3, .ref q5, .ref q7, .null, .null, .int 0, .int 0])), (2, .inr (3, [.ref (u4 3), .ref (u4 4), .int 0])), (4, .inl (eI E, 8, .inl (fun _ => 0))), (3, .inl (eI E, 8, .inl (fun _ => 0))), (5, .inr (2, [.int 0, .int 0, .ref (u6 8)])), (8, .inr (0, [.int 0, .ref (eZ E), .int 0])), (6, .inr (2, [.int 0, .int 0, .ref (u8 9)])), (9, .inr (0, [.int 0, .ref (eZ E), .int 0]))]) H locs := hH
  refine lv_aload_n hx hb dX4_init_48 rfl (lv_at hl 0 rfl) ?_
  refine r_new (C := RX1) (T := TX1) (N := 3) (ci := 2) (fs := [.int 0, .int 0, .null]) F hH 7 (not_new (not_new (not_new (not_new (not_new (not_new (not_new (not_new (hn 7 (by decide)) (by decide)) (by decide)) (by decide)) (by decide)) (by decide)) (by decide)) (by decide)) (by decide)) inX1 tyX1 tyX1_ok (hts (.classLink RX4 23 RX1) (by decide +kernel)) (hts (.instantiable RX1 3) (by decide +kernel)) (hts (.initialized RX1) (by decide +kernel)) rfl (fun j hj => by rcases (show j = 0 ∨ j = 1 ∨ j = 2 by omega) with rfl | rfl | rfl <;> rfl) (Nat.le_of_ble_eq_true rfl) (Nat.le_of_ble_eq_true rfl) dX4_init_49 (fun q9 H hH => ?_)
  rw [lf_ups] at hH
  have hH : HFS (eNew (eNew (eNew (eNew (eNew (eNew (eNew (eNew (eNew E 1 q1) 2 q3) 3 (u4 3)) 4 (u4 4)) 5 q5) 8 (u6 8)) 6 q7) 9 (u8 9)) 7 q9) s.heap (lf f [(1, .inr (4, [.int 100, .int 200, .int 50, .int 200, .int 120, .int 0])), (0, .inr (5, [.ref q1, .ref q3, .ref q5, .ref q7, .null, .null, .int 0, .int 0])), (2, .inr (3, [.ref (u4 3), .ref (u4 4), .int 0])), (4, .inl (eI E, 8, .inl (fun _ => 0))), (3, .inl (eI E, 8, .inl (fun _ => 0))), (5, .inr (2, [.int 0, .int 0, .ref (u6 8)])), (8, .inr (0, [.int 0, .ref (eZ E), .int 0])), (6, .inr (2, [.int 0, .int 0, .ref (u8 9)])), (9, .inr (0, [.int 0, .ref (eZ E), .int 0])), (7, .inr (2, [.int 0, .int 0, .null]))]) H _ := hH
  have F : FX p m c cX4_init 1 s ([.ref (eAd E 0)] : List Value).toArray wsX4_init RX4 (eNew (eNew (eNew (eNew (eNew (eNew (eNew (eNew (eNew E 1 q1) 2 q3) 3 (u4 3)) 4 (u4 4)) 5 q5) 8 (u6 8)) 6 q7) 9 (u8 9)) 7 q9) := F
  refine lv_dup hx hb dX4_init_52 rfl ?_
  refine r_inv (As := []) (b := q9) F hH (c_X1_init_2 l (eNew (eNew (eNew (eNew (eNew (eNew (eNew (eNew (eNew E 1 q1) 2 q3) 3 (u4 3)) 4 (u4 4)) 5 q5) 8 (u6 8)) 6 q7) 9 (u8 9)) 7 q9) (lf f [(1, .inr (4, [.int 100, .int 200, .int 50, .int 200, .int 120, .int 0])), (0, .inr (5, [.ref q1, .ref q3, .ref q5, .ref q7, .null, .null, .int 0, .int 0])), (2, .inr (3, [.ref (u4 3), .ref (u4 4), .int 0])), (4, .inl (eI E, 8, .inl (fun _ => 0))), (3, .inl (eI E, 8, .inl (fun _ => 0))), (5, .inr (2, [.int 0, .int 0, .ref (u6 8)])), (8, .inr (0, [.int 0, .ref (eZ E), .int 0])), (6, .inr (2, [.int 0, .int 0, .ref (u8 9)])), (9, .inr (0, [.int 0, .ref (eZ E), .int 0])), (7, .inr (2, [.int 0, .int 0, .null]))]) mem_new rfl (by intro j hj; simp only [List.mem_cons, List.not_mem_nil, or_false] at hj; rcases hj with rfl <;> exact (not_new (not_new (not_new (not_new (not_new (not_new (not_new (not_new (not_new (hn _ (by decide)) (by decide)) (by decide)) (by decide)) (by decide)) (by decide)) (by decide)) (by decide)) (by decide)) (by decide)))) ⟨va_cnB 0 hts gX4_init_X1_init_n25 rfl rfl rfl F.2.2.2.1.2.2.2.2.2.2 (hts (.initialized RX1) (by decide +kernel)) (by decide +kernel) ⟨Nat.le_of_ble_eq_true rfl, Nat.le_of_ble_eq_true rfl⟩, rfl, (hts (.instanceMethod yX1_init) (by decide +kernel))⟩ rfl hl.1 [.ref (q9), .ref (eAd E 0)] rfl (Nat.le_of_ble_eq_true rfl) dX4_init_53 ⟨Nat.le_of_ble_eq_true rfl, Nat.le_of_ble_eq_true rfl⟩ (fun u10 t H locs ht _ hB hS => ?_)
  have hH : HFS (eNew (eNew (eNew (eNew (eNew (eNew (eNew (eNew (eNew (eNew E 1 q1) 2 q3) 3 (u4 3)) 4 (u4 4)) 5 q5) 8 (u6 8)) 6 q7) 9 (u8 9)) 7 q9) 10 (u10 10)) s.heap (lf f [(1, .inr (4, [.int 100, .int 200, .int 50, .int 200, .int 120, .int 0])), (0, .inr (5, [.ref q1, .ref q3, .ref q5, .ref q7, .null, .null, .int 0, .int 0])), (2, .inr (3, [.ref (u4 3), .ref (u4 4), .int 0])), (4, .inl (eI E, 8, .inl (fun _ => 0))), (3, .inl (eI E, 8, .inl (fun _ => 0))), (5, .inr (2, [.int 0, .int 0, .ref (u6 8)])), (8, .inr (0, [.int 0, .ref (eZ E), .int 0])), (6, .inr (2, [.int 0, .int 0, .ref (u8 9)])), (9, .inr (0, [.int 0, .ref (eZ E), .int 0])), (7, .inr (2, [.int 0, .int 0, .ref (u10 10)])), (10, .inr (0, [.int 0, .ref (eZ E), .int 0]))]) H locs := ⟨by rw [ht, lf_mrg] at hB; exact hB, hS⟩
  have F : FX p m c cX4_init 1 s ([.ref (eAd E 0)] : List Value).toArray wsX4_init RX4 (eNew (eNew (eNew (eNew (eNew (eNew (eNew (eNew (eNew (eNew E 1 q1) 2 q3) 3 (u4 3)) 4 (u4 4)) 5 q5) 8 (u6 8)) 6 q7) 9 (u8 9)) 7 q9) 10 (u10 10)) := F
  refine r_putF (ty := .object "DryingKiln$Load") (x := .ref q9) F hH hin inX4 tyX4 tyX4_ok nmX4 (mem_old (mem_old (mem_old (mem_old (mem_old (mem_old (mem_old (mem_old (mem_old (mem_old hk)))))))))) rfl rfl rfl 4 (by decide) (hts (.fieldLink RX4 33 "DryingKiln" "trial" "LDryingKiln$Load;") (by decide +kernel)) (fun _ h => h) rfl rfl (by decide +kernel) rfl rfl (Nat.le_of_ble_eq_true rfl) dX4_init_56 (fun H locs hH => ?_)
  rw [lf_ups] at hH
  have hH : HFS (eNew (eNew (eNew (eNew (eNew (eNew (eNew (eNew (eNew (eNew E 1 q1) 2 q3) 3 (u4 3)) 4 (u4 4)) 5 q5) 8 (u6 8)) 6 q7) 9 (u8 9)) 7 q9) 10 (u10 10)) s.heap (lf f [(1, .inr (4, [.int 100, .int 200, .int 50, .int 200, .int 120, .int 0])), (0, .inr (5, [.ref q1, .ref q3, .ref q5, .ref q7, .ref q9, .null, .int 0, .int 0])), (2, .inr (3, [.ref (u4 3), .ref (u4 4), .int 0])), (4, .inl (eI E, 8, .inl (fun _ => 0))), (3, .inl (eI E, 8, .inl (fun _ => 0))), (5, .inr (2, [.int 0, .int 0, .ref (u6 8)])), (8, .inr (0, [.int 0, .ref (eZ E), .int 0])), (6, .inr (2, [.int 0, .int 0, .ref (u8 9)])), (9, .inr (0, [.int 0, .ref (eZ E), .int 0])), (7, .inr (2, [.int 0, .int 0, .ref (u10 10)])), (10, .inr (0, [.int 0, .ref (eZ E), .int 0]))]) H locs := hH
  refine lv_aload_n hx hb dX4_init_59 rfl (lv_at hl 0 rfl) ?_
  refine lv_sipush (v := 300) hx hb dX4_init_60 (by decide) ?_
  refine r_newa F hH 11 (not_new (not_new (not_new (not_new (not_new (not_new (not_new (not_new (not_new (not_new (hn 11 (by decide)) (by decide)) (by decide)) (by decide)) (by decide)) (by decide)) (by decide)) (by decide)) (by decide)) (by decide)) (by decide)) (hts (.arrayClass .int) (by decide +kernel)) 300 rfl (by decide) (Nat.le_of_ble_eq_true rfl) (Nat.le_of_ble_eq_true rfl) dX4_init_63 (fun q11 H hH => ?_)
  rw [lf_ups] at hH
  have hH : HFS (eNew (eNew (eNew (eNew (eNew (eNew (eNew (eNew (eNew (eNew (eNew E 1 q1) 2 q3) 3 (u4 3)) 4 (u4 4)) 5 q5) 8 (u6 8)) 6 q7) 9 (u8 9)) 7 q9) 10 (u10 10)) 11 q11) s.heap (lf f [(1, .inr (4, [.int 100, .int 200, .int 50, .int 200, .int 120, .int 0])), (0, .inr (5, [.ref q1, .ref q3, .ref q5, .ref q7, .ref q9, .null, .int 0, .int 0])), (2, .inr (3, [.ref (u4 3), .ref (u4 4), .int 0])), (4, .inl (eI E, 8, .inl (fun _ => 0))), (3, .inl (eI E, 8, .inl (fun _ => 0))), (5, .inr (2, [.int 0, .int 0, .ref (u6 8)])), (8, .inr (0, [.int 0, .ref (eZ E), .int 0])), (6, .inr (2, [.int 0, .int 0, .ref (u8 9)])), (9, .inr (0, [.int 0, .ref (eZ E), .int 0])), (7, .inr (2, [.int 0, .int 0, .ref (u10 10)])), (10, .inr (0, [.int 0, .ref (eZ E), .int 0])), (11, .inl (eI E, 300, .inl (fun _ => 0)))]) H _ := hH
  have F : FX p m c cX4_init 1 s ([.ref (eAd E 0)] : List Value).toArray wsX4_init RX4 (eNew (eNew (eNew (eNew (eNew (eNew (eNew (eNew (eNew (eNew (eNew E 1 q1) 2 q3) 3 (u4 3)) 4 (u4 4)) 5 q5) 8 (u6 8)) 6 q7) 9 (u8 9)) 7 q9) 10 (u10 10)) 11 q11) := F
  refine r_putF (ty := .array .int) (x := .ref q11) F hH hin inX4 tyX4 tyX4_ok nmX4 (mem_old (mem_old (mem_old (mem_old (mem_old (mem_old (mem_old (mem_old (mem_old (mem_old (mem_old hk))))))))))) rfl rfl rfl 5 (by decide) (hts (.fieldLink RX4 36 "DryingKiln" "plan" "[I") (by decide +kernel)) (fun _ h => h) rfl rfl (by decide +kernel) rfl rfl (Nat.le_of_ble_eq_true rfl) dX4_init_65 (fun H locs hH => ?_)
  rw [lf_ups] at hH
  have hH : HFS (eNew (eNew (eNew (eNew (eNew (eNew (eNew (eNew (eNew (eNew (eNew E 1 q1) 2 q3) 3 (u4 3)) 4 (u4 4)) 5 q5) 8 (u6 8)) 6 q7) 9 (u8 9)) 7 q9) 10 (u10 10)) 11 q11) s.heap (lf f [(1, .inr (4, [.int 100, .int 200, .int 50, .int 200, .int 120, .int 0])), (0, .inr (5, [.ref q1, .ref q3, .ref q5, .ref q7, .ref q9, .ref q11, .int 0, .int 0])), (2, .inr (3, [.ref (u4 3), .ref (u4 4), .int 0])), (4, .inl (eI E, 8, .inl (fun _ => 0))), (3, .inl (eI E, 8, .inl (fun _ => 0))), (5, .inr (2, [.int 0, .int 0, .ref (u6 8)])), (8, .inr (0, [.int 0, .ref (eZ E), .int 0])), (6, .inr (2, [.int 0, .int 0, .ref (u8 9)])), (9, .inr (0, [.int 0, .ref (eZ E), .int 0])), (7, .inr (2, [.int 0, .int 0, .ref (u10 10)])), (10, .inr (0, [.int 0, .ref (eZ E), .int 0])), (11, .inl (eI E, 300, .inl (fun _ => 0)))]) H locs := hH
  refine lv_aload_n hx hb dX4_init_68 rfl (lv_at hl 0 rfl) ?_
  refine lv_iconst (v := 0) hx hb dX4_init_69 (by decide) ?_
  refine r_put (ty := .int) (x := .int 0) F hH inX4 tyX4 tyX4_ok nmX4 (mem_old (mem_old (mem_old (mem_old (mem_old (mem_old (mem_old (mem_old (mem_old (mem_old (mem_old hk))))))))))) rfl rfl rfl 6 (by decide) (hts (.fieldLink RX4 40 "DryingKiln" "hoursRun" "I") (by decide +kernel)) (fun _ h => h) rfl (by decide +kernel) rfl rfl (Nat.le_of_ble_eq_true rfl) dX4_init_70 (fun H locs hH => ?_)
  rw [lf_ups] at hH
  have hH : HFS (eNew (eNew (eNew (eNew (eNew (eNew (eNew (eNew (eNew (eNew (eNew E 1 q1) 2 q3) 3 (u4 3)) 4 (u4 4)) 5 q5) 8 (u6 8)) 6 q7) 9 (u8 9)) 7 q9) 10 (u10 10)) 11 q11) s.heap (lf f [(1, .inr (4, [.int 100, .int 200, .int 50, .int 200, .int 120, .int 0])), (0, .inr (5, [.ref q1, .ref q3, .ref q5, .ref q7, .ref q9, .ref q11, .int 0, .int 0])), (2, .inr (3, [.ref (u4 3), .ref (u4 4), .int 0])), (4, .inl (eI E, 8, .inl (fun _ => 0))), (3, .inl (eI E, 8, .inl (fun _ => 0))), (5, .inr (2, [.int 0, .int 0, .ref (u6 8)])), (8, .inr (0, [.int 0, .ref (eZ E), .int 0])), (6, .inr (2, [.int 0, .int 0, .ref (u8 9)])), (9, .inr (0, [.int 0, .ref (eZ E), .int 0])), (7, .inr (2, [.int 0, .int 0, .ref (u10 10)])), (10, .inr (0, [.int 0, .ref (eZ E), .int 0])), (11, .inl (eI E, 300, .inl (fun _ => 0)))]) H locs := hH
  refine lv_aload_n hx hb dX4_init_73 rfl (lv_at hl 0 rfl) ?_
  refine lv_iconst (v := 0) hx hb dX4_init_74 (by decide) ?_
  refine r_put (ty := .int) (x := .int 0) F hH inX4 tyX4 tyX4_ok nmX4 (mem_old (mem_old (mem_old (mem_old (mem_old (mem_old (mem_old (mem_old (mem_old (mem_old (mem_old hk))))))))))) rfl rfl rfl 7 (by decide) (hts (.fieldLink RX4 44 "DryingKiln" "waterGivenOff" "I") (by decide +kernel)) (fun _ h => h) rfl (by decide +kernel) rfl rfl (Nat.le_of_ble_eq_true rfl) dX4_init_75 (fun H locs hH => ?_)
  rw [lf_ups] at hH
  have hH : HFS (eNew (eNew (eNew (eNew (eNew (eNew (eNew (eNew (eNew (eNew (eNew E 1 q1) 2 q3) 3 (u4 3)) 4 (u4 4)) 5 q5) 8 (u6 8)) 6 q7) 9 (u8 9)) 7 q9) 10 (u10 10)) 11 q11) s.heap (lf f [(1, .inr (4, [.int 100, .int 200, .int 50, .int 200, .int 120, .int 0])), (0, .inr (5, [.ref q1, .ref q3, .ref q5, .ref q7, .ref q9, .ref q11, .int 0, .int 0])), (2, .inr (3, [.ref (u4 3), .ref (u4 4), .int 0])), (4, .inl (eI E, 8, .inl (fun _ => 0))), (3, .inl (eI E, 8, .inl (fun _ => 0))), (5, .inr (2, [.int 0, .int 0, .ref (u6 8)])), (8, .inr (0, [.int 0, .ref (eZ E), .int 0])), (6, .inr (2, [.int 0, .int 0, .ref (u8 9)])), (9, .inr (0, [.int 0, .ref (eZ E), .int 0])), (7, .inr (2, [.int 0, .int 0, .ref (u10 10)])), (10, .inr (0, [.int 0, .ref (eZ E), .int 0])), (11, .inl (eI E, 300, .inl (fun _ => 0)))]) H locs := hH
  refine W.widen (k := 11) (n := 343) (Nat.le_of_ble_eq_true rfl) (Nat.le_of_ble_eq_true rfl) ?_
  exact W.vret hx hb hr (fun t ht hW => ⟨⟨fun k => if k = 1 then q1 else if k = 2 then q3 else if k = 3 then (u4 3) else if k = 4 then (u4 4) else if k = 5 then q5 else if k = 8 then (u6 8) else if k = 6 then q7 else if k = 9 then (u8 9) else if k = 7 then q9 else if k = 10 then (u10 10) else if k = 11 then q11 else 0, rfl, trivial, (by show HF (eNew (eNew (eNew (eNew (eNew (eNew (eNew (eNew (eNew (eNew (eNew E 1 q1) 2 q3) 3 (u4 3)) 4 (u4 4)) 5 q5) 8 (u6 8)) 6 q7) 9 (u8 9)) 7 q9) 10 (u10 10)) 11 q11) (lf f [(1, .inr (4, [.int 100, .int 200, .int 50, .int 200, .int 120, .int 0])), (0, .inr (5, [.ref q1, .ref q3, .ref q5, .ref q7, .ref q9, .ref q11, .int 0, .int 0])), (2, .inr (3, [.ref (u4 3), .ref (u4 4), .int 0])), (4, .inl (eI E, 8, .inl (fun _ => 0))), (3, .inl (eI E, 8, .inl (fun _ => 0))), (5, .inr (2, [.int 0, .int 0, .ref (u6 8)])), (8, .inr (0, [.int 0, .ref (eZ E), .int 0])), (6, .inr (2, [.int 0, .int 0, .ref (u8 9)])), (9, .inr (0, [.int 0, .ref (eZ E), .int 0])), (7, .inr (2, [.int 0, .int 0, .ref (u10 10)])), (10, .inr (0, [.int 0, .ref (eZ E), .int 0])), (11, .inl (eI E, 300, .inl (fun _ => 0)))]) t.heap; rw [ht]; exact hH.1)⟩, hH.2.F ht⟩) hH.2.2.2 dX4_init_78 hlk

set_option maxHeartbeats 4000000 in
set_option maxRecDepth 100000 in
theorem c_X5_init (l : Launch) (E : Ev) (f : Nat → va_E) (hk : 15 ∈ eK E) (hf : f 15 = .inr (6, [.int 0, .null, .null, .null, .null, .int 0, .int 0, .int 0, .int 0, .int 0, .int 0, .int 0, .int 0, .int 0, .int 0, .null, .int 0, .null, .null, .null, .null, .null, .null, .int 0])) (hn : ∀ j, j ∈ [16, 17, 18, 19, 20, 21, 22, 23, 24, 25, 26] → j ∉ eK E) : Met l yX5_init wsX5_init ({ frames := 1, cells := 11, slots := 512, locals := 24 } : Room) (va_Pc [.ref (eAd E 15)] (WF E f)) (va_Qv (fun (_ : Nat → Nat) => True) (fun u t => HF (eNew (eNew (eNew (eNew (eNew (eNew (eNew (eNew (eNew (eNew (eNew E 16 (u 16)) 17 (u 17)) 18 (u 18)) 19 (u 19)) 20 (u 20)) 21 (u 21)) 22 (u 22)) 23 (u 23)) 24 (u 24)) 25 (u 25)) 26 (u 26)) (lf f [(16, .inl (eI E, 6, .inl (fun _ => 0))), (15, .inr (6, [.int 0, .ref (u 16), .ref (u 17), .ref (u 18), .ref (u 19), .int 100, .int 200, .int 50, .int 200, .int 120, .int 0, .int 0, .int 0, .int 0, .int 0, .ref (u 20), .int 0, .ref (u 21), .ref (u 22), .ref (u 23), .ref (u 24), .ref (u 25), .ref (u 26), .int 0])), (17, .inl (eI E, 54, .inl (fun _ => 0))), (18, .inl (eI E, 6, .inl (fun _ => 0))), (19, .inl (eI E, 6, .inl (fun _ => 0))), (20, .inl (eI E, 10, .inl (fun _ => 0))), (21, .inl (eI E, 8, .inl (fun _ => 0))), (22, .inl (eI E, 8, .inl (fun _ => 0))), (23, .inl (eI E, 54, .inl (fun _ => 0))), (24, .inl (eI E, 6, .inl (fun _ => 0))), (25, .inl (eI E, 54, .inl (fun _ => 0))), (26, .inl (eI E, 300, .inl (fun _ => 0)))]) t.heap) (eA E)) 11 512 (eA E) := by
  refine RF.of (cc := cX5_init) (maxL := 1) (ret := none) (own := RX5) (by decide) rfl rfl (Nat.le_of_ble_eq_true rfl) ?_
  intro p e s m below meth c F hr hlk hin ls hl hH
  obtain ⟨hx, hb, hml, hown, hts⟩ := id F.1
  have hl : lv_has ls 1 [(0, .ref (eAd E 15))] := hl
  have inX5 : ∀ w ∈ wsX50, w ∈ wsX5_init := fun w h => List.mem_cons_of_mem _ (List.mem_append_right _ h)
  have hH : HFS E s.heap (lf f []) s.heap [] := hH
  refine lv_aload_n hx hb dX5_init_0 rfl (lv_at hl 0 rfl) ?_
  refine W.objInit hx hb hown (hts (.methodLink RX5 1 objectInit) (by decide +kernel)) (hts (.instanceMethod objectInit) (by decide +kernel)) (hts (.code objectInit ⟨#[0xb1]⟩ 1 none) (by decide +kernel)) rfl (by rw [hml]; exact hl.1) rfl dX5_init_1 (Nat.le_of_ble_eq_true rfl) (Nat.le_of_ble_eq_true rfl) ?_
  refine W.eq (g2 := F0 m 4 ls []) rfl ?_
  refine lv_aload_n hx hb dX5_init_4 rfl (lv_at hl 0 rfl) ?_
  refine lv_bipush (v := 6) hx hb dX5_init_5 (by decide) ?_
  refine r_newa F hH 16 (hn 16 (by decide)) (hts (.arrayClass .int) (by decide +kernel)) 6 rfl (by decide) (Nat.le_of_ble_eq_true rfl) (Nat.le_of_ble_eq_true rfl) dX5_init_7 (fun q1 H hH => ?_)
  rw [lf_ups] at hH
  have hH : HFS (eNew E 16 q1) s.heap (lf f [(16, .inl (eI E, 6, .inl (fun _ => 0)))]) H _ := hH
  have F : FX p m c cX5_init 1 s ([.ref (eAd E 15)] : List Value).toArray wsX5_init RX5 (eNew E 16 q1) := F
  refine r_putF (ty := .array .int) (x := .ref q1) F hH hin inX5 tyX5 tyX5_ok nmX5 (mem_old hk) rfl hf rfl 1 (by decide) (hts (.fieldLink RX5 7 "DryingKilnModel" "layersOf" "[I") (by decide +kernel)) (fun _ h => h) rfl rfl (by decide +kernel) rfl rfl (Nat.le_of_ble_eq_true rfl) dX5_init_9 (fun H locs hH => ?_)
  rw [lf_ups] at hH
  have hH : HFS (eNew E 16 q1) s.heap (lf f [(16, .inl (eI E, 6, .inl (fun _ => 0))), (15, .inr (6, [.int 0, .ref q1, .null, .null, .null, .int 0, .int 0, .int 0, .int 0, .int 0, .int 0, .int 0, .int 0, .int 0, .int 0, .null, .int 0, .null, .null, .null, .null, .null, .null, .int 0]))]) H locs := hH
  refine lv_aload_n hx hb dX5_init_12 rfl (lv_at hl 0 rfl) ?_
  refine lv_bipush (v := 54) hx hb dX5_init_13 (by decide) ?_
  refine r_newa F hH 17 (not_new (hn 17 (by decide)) (by decide)) (hts (.arrayClass .int) (by decide +kernel)) 54 rfl (by decide) (Nat.le_of_ble_eq_true rfl) (Nat.le_of_ble_eq_true rfl) dX5_init_15 (fun q2 H hH => ?_)
  rw [lf_ups] at hH
  have hH : HFS (eNew (eNew E 16 q1) 17 q2) s.heap (lf f [(16, .inl (eI E, 6, .inl (fun _ => 0))), (15, .inr (6, [.int 0, .ref q1, .null, .null, .null, .int 0, .int 0, .int 0, .int 0, .int 0, .int 0, .int 0, .int 0, .int 0, .int 0, .null, .int 0, .null, .null, .null, .null, .null, .null, .int 0])), (17, .inl (eI E, 54, .inl (fun _ => 0)))]) H _ := hH
  have F : FX p m c cX5_init 1 s ([.ref (eAd E 15)] : List Value).toArray wsX5_init RX5 (eNew (eNew E 16 q1) 17 q2) := F
  refine r_putF (ty := .array .int) (x := .ref q2) F hH hin inX5 tyX5 tyX5_ok nmX5 (mem_old (mem_old hk)) rfl rfl rfl 2 (by decide) (hts (.fieldLink RX5 13 "DryingKilnModel" "cells" "[I") (by decide +kernel)) (fun _ h => h) rfl rfl (by decide +kernel) rfl rfl (Nat.le_of_ble_eq_true rfl) dX5_init_17 (fun H locs hH => ?_)
  rw [lf_ups] at hH
  have hH : HFS (eNew (eNew E 16 q1) 17 q2) s.heap (lf f [(16, .inl (eI E, 6, .inl (fun _ => 0))), (15, .inr (6, [.int 0, .ref q1, .ref q2, .null, .null, .int 0, .int 0, .int 0, .int 0, .int 0, .int 0, .int 0, .int 0, .int 0, .int 0, .null, .int 0, .null, .null, .null, .null, .null, .null, .int 0])), (17, .inl (eI E, 54, .inl (fun _ => 0)))]) H locs := hH
  refine lv_aload_n hx hb dX5_init_20 rfl (lv_at hl 0 rfl) ?_
  refine lv_bipush (v := 6) hx hb dX5_init_21 (by decide) ?_
  refine r_newa F hH 18 (not_new (not_new (hn 18 (by decide)) (by decide)) (by decide)) (hts (.arrayClass .int) (by decide +kernel)) 6 rfl (by decide) (Nat.le_of_ble_eq_true rfl) (Nat.le_of_ble_eq_true rfl) dX5_init_23 (fun q3 H hH => ?_)
  rw [lf_ups] at hH
  have hH : HFS (eNew (eNew (eNew E 16 q1) 17 q2) 18 q3) s.heap (lf f [(16, .inl (eI E, 6, .inl (fun _ => 0))), (15, .inr (6, [.int 0, .ref q1, .ref q2, .null, .null, .int 0, .int 0, .int 0, .int 0, .int 0, .int 0, .int 0, .int 0, .int 0, .int 0, .null, .int 0, .null, .null, .null, .null, .null, .null, .int 0])), (17, .inl (eI E, 54, .inl (fun _ => 0))), (18, .inl (eI E, 6, .inl (fun _ => 0)))]) H _ := hH
  have F : FX p m c cX5_init 1 s ([.ref (eAd E 15)] : List Value).toArray wsX5_init RX5 (eNew (eNew (eNew E 16 q1) 17 q2) 18 q3) := F
  refine r_putF (ty := .array .int) (x := .ref q3) F hH hin inX5 tyX5 tyX5_ok nmX5 (mem_old (mem_old (mem_old hk))) rfl rfl rfl 3 (by decide) (hts (.fieldLink RX5 16 "DryingKilnModel" "checkOf" "[I") (by decide +kernel)) (fun _ h => h) rfl rfl (by decide +kernel) rfl rfl (Nat.le_of_ble_eq_true rfl) dX5_init_25 (fun H locs hH => ?_)
  rw [lf_ups] at hH
  have hH : HFS (eNew (eNew (eNew E 16 q1) 17 q2) 18 q3) s.heap (lf f [(16, .inl (eI E, 6, .inl (fun _ => 0))), (15, .inr (6, [.int 0, .ref q1, .ref q2, .ref q3, .null, .int 0, .int 0, .int 0, .int 0, .int 0, .int 0, .int 0, .int 0, .int 0, .int 0, .null, .int 0, .null, .null, .null, .null, .null, .null, .int 0])), (17, .inl (eI E, 54, .inl (fun _ => 0))), (18, .inl (eI E, 6, .inl (fun _ => 0)))]) H locs := hH
  refine lv_aload_n hx hb dX5_init_28 rfl (lv_at hl 0 rfl) ?_
  refine lv_bipush (v := 6) hx hb dX5_init_29 (by decide) ?_
  refine r_newa F hH 19 (not_new (not_new (not_new (hn 19 (by decide)) (by decide)) (by decide)) (by decide)) (hts (.arrayClass .int) (by decide +kernel)) 6 rfl (by decide) (Nat.le_of_ble_eq_true rfl) (Nat.le_of_ble_eq_true rfl) dX5_init_31 (fun q4 H hH => ?_)
  rw [lf_ups] at hH
  have hH : HFS (eNew (eNew (eNew (eNew E 16 q1) 17 q2) 18 q3) 19 q4) s.heap (lf f [(16, .inl (eI E, 6, .inl (fun _ => 0))), (15, .inr (6, [.int 0, .ref q1, .ref q2, .ref q3, .null, .int 0, .int 0, .int 0, .int 0, .int 0, .int 0, .int 0, .int 0, .int 0, .int 0, .null, .int 0, .null, .null, .null, .null, .null, .null, .int 0])), (17, .inl (eI E, 54, .inl (fun _ => 0))), (18, .inl (eI E, 6, .inl (fun _ => 0))), (19, .inl (eI E, 6, .inl (fun _ => 0)))]) H _ := hH
  have F : FX p m c cX5_init 1 s ([.ref (eAd E 15)] : List Value).toArray wsX5_init RX5 (eNew (eNew (eNew (eNew E 16 q1) 17 q2) 18 q3) 19 q4) := F
  refine r_putF (ty := .array .int) (x := .ref q4) F hH hin inX5 tyX5 tyX5_ok nmX5 (mem_old (mem_old (mem_old (mem_old hk)))) rfl rfl rfl 4 (by decide) (hts (.fieldLink RX5 19 "DryingKilnModel" "airOf" "[I") (by decide +kernel)) (fun _ h => h) rfl rfl (by decide +kernel) rfl rfl (Nat.le_of_ble_eq_true rfl) dX5_init_33 (fun H locs hH => ?_)
  rw [lf_ups] at hH
  have hH : HFS (eNew (eNew (eNew (eNew E 16 q1) 17 q2) 18 q3) 19 q4) s.heap (lf f [(16, .inl (eI E, 6, .inl (fun _ => 0))), (15, .inr (6, [.int 0, .ref q1, .ref q2, .ref q3, .ref q4, .int 0, .int 0, .int 0, .int 0, .int 0, .int 0, .int 0, .int 0, .int 0, .int 0, .null, .int 0, .null, .null, .null, .null, .null, .null, .int 0])), (17, .inl (eI E, 54, .inl (fun _ => 0))), (18, .inl (eI E, 6, .inl (fun _ => 0))), (19, .inl (eI E, 6, .inl (fun _ => 0)))]) H locs := hH
  refine lv_aload_n hx hb dX5_init_36 rfl (lv_at hl 0 rfl) ?_
  refine lv_sipush (v := 200) hx hb dX5_init_37 (by decide) ?_
  refine r_put (ty := .int) (x := .int 200) F hH inX5 tyX5 tyX5_ok nmX5 (mem_old (mem_old (mem_old (mem_old hk)))) rfl rfl rfl 6 (by decide) (hts (.fieldLink RX5 22 "DryingKilnModel" "surfaceNow" "I") (by decide +kernel)) (fun _ h => h) rfl (by decide +kernel) rfl rfl (Nat.le_of_ble_eq_true rfl) dX5_init_40 (fun H locs hH => ?_)
  rw [lf_ups] at hH
  have hH : HFS (eNew (eNew (eNew (eNew E 16 q1) 17 q2) 18 q3) 19 q4) s.heap (lf f [(16, .inl (eI E, 6, .inl (fun _ => 0))), (15, .inr (6, [.int 0, .ref q1, .ref q2, .ref q3, .ref q4, .int 0, .int 200, .int 0, .int 0, .int 0, .int 0, .int 0, .int 0, .int 0, .int 0, .null, .int 0, .null, .null, .null, .null, .null, .null, .int 0])), (17, .inl (eI E, 54, .inl (fun _ => 0))), (18, .inl (eI E, 6, .inl (fun _ => 0))), (19, .inl (eI E, 6, .inl (fun _ => 0)))]) H locs := hH
  refine lv_aload_n hx hb dX5_init_43 rfl (lv_at hl 0 rfl) ?_
  refine lv_bipush (v := 50) hx hb dX5_init_44 (by decide) ?_
  refine r_put (ty := .int) (x := .int 50) F hH inX5 tyX5 tyX5_ok nmX5 (mem_old (mem_old (mem_old (mem_old hk)))) rfl rfl rfl 7 (by decide) (hts (.fieldLink RX5 26 "DryingKilnModel" "capacityNow" "I") (by decide +kernel)) (fun _ h => h) rfl (by decide +kernel) rfl rfl (Nat.le_of_ble_eq_true rfl) dX5_init_46 (fun H locs hH => ?_)
  rw [lf_ups] at hH
  have hH : HFS (eNew (eNew (eNew (eNew E 16 q1) 17 q2) 18 q3) 19 q4) s.heap (lf f [(16, .inl (eI E, 6, .inl (fun _ => 0))), (15, .inr (6, [.int 0, .ref q1, .ref q2, .ref q3, .ref q4, .int 0, .int 200, .int 50, .int 0, .int 0, .int 0, .int 0, .int 0, .int 0, .int 0, .null, .int 0, .null, .null, .null, .null, .null, .null, .int 0])), (17, .inl (eI E, 54, .inl (fun _ => 0))), (18, .inl (eI E, 6, .inl (fun _ => 0))), (19, .inl (eI E, 6, .inl (fun _ => 0)))]) H locs := hH
  refine lv_aload_n hx hb dX5_init_49 rfl (lv_at hl 0 rfl) ?_
  refine lv_sipush (v := 200) hx hb dX5_init_50 (by decide) ?_
  refine r_put (ty := .int) (x := .int 200) F hH inX5 tyX5 tyX5_ok nmX5 (mem_old (mem_old (mem_old (mem_old hk)))) rfl rfl rfl 8 (by decide) (hts (.fieldLink RX5 29 "DryingKilnModel" "limitNow" "I") (by decide +kernel)) (fun _ h => h) rfl (by decide +kernel) rfl rfl (Nat.le_of_ble_eq_true rfl) dX5_init_53 (fun H locs hH => ?_)
  rw [lf_ups] at hH
  have hH : HFS (eNew (eNew (eNew (eNew E 16 q1) 17 q2) 18 q3) 19 q4) s.heap (lf f [(16, .inl (eI E, 6, .inl (fun _ => 0))), (15, .inr (6, [.int 0, .ref q1, .ref q2, .ref q3, .ref q4, .int 0, .int 200, .int 50, .int 200, .int 0, .int 0, .int 0, .int 0, .int 0, .int 0, .null, .int 0, .null, .null, .null, .null, .null, .null, .int 0])), (17, .inl (eI E, 54, .inl (fun _ => 0))), (18, .inl (eI E, 6, .inl (fun _ => 0))), (19, .inl (eI E, 6, .inl (fun _ => 0)))]) H locs := hH
  refine lv_aload_n hx hb dX5_init_56 rfl (lv_at hl 0 rfl) ?_
  refine lv_bipush (v := 120) hx hb dX5_init_57 (by decide) ?_
  refine r_put (ty := .int) (x := .int 120) F hH inX5 tyX5 tyX5_ok nmX5 (mem_old (mem_old (mem_old (mem_old hk)))) rfl rfl rfl 9 (by decide) (hts (.fieldLink RX5 32 "DryingKilnModel" "humidityNow" "I") (by decide +kernel)) (fun _ h => h) rfl (by decide +kernel) rfl rfl (Nat.le_of_ble_eq_true rfl) dX5_init_59 (fun H locs hH => ?_)
  rw [lf_ups] at hH
  have hH : HFS (eNew (eNew (eNew (eNew E 16 q1) 17 q2) 18 q3) 19 q4) s.heap (lf f [(16, .inl (eI E, 6, .inl (fun _ => 0))), (15, .inr (6, [.int 0, .ref q1, .ref q2, .ref q3, .ref q4, .int 0, .int 200, .int 50, .int 200, .int 120, .int 0, .int 0, .int 0, .int 0, .int 0, .null, .int 0, .null, .null, .null, .null, .null, .null, .int 0])), (17, .inl (eI E, 54, .inl (fun _ => 0))), (18, .inl (eI E, 6, .inl (fun _ => 0))), (19, .inl (eI E, 6, .inl (fun _ => 0)))]) H locs := hH
  refine lv_aload_n hx hb dX5_init_62 rfl (lv_at hl 0 rfl) ?_
  refine lv_bipush (v := 10) hx hb dX5_init_63 (by decide) ?_
  refine r_newa F hH 20 (not_new (not_new (not_new (not_new (hn 20 (by decide)) (by decide)) (by decide)) (by decide)) (by decide)) (hts (.arrayClass .int) (by decide +kernel)) 10 rfl (by decide) (Nat.le_of_ble_eq_true rfl) (Nat.le_of_ble_eq_true rfl) dX5_init_65 (fun q5 H hH => ?_)
  rw [lf_ups] at hH
  have hH : HFS (eNew (eNew (eNew (eNew (eNew E 16 q1) 17 q2) 18 q3) 19 q4) 20 q5) s.heap (lf f [(16, .inl (eI E, 6, .inl (fun _ => 0))), (15, .inr (6, [.int 0, .ref q1, .ref q2, .ref q3, .ref q4, .int 0, .int 200, .int 50, .int 200, .int 120, .int 0, .int 0, .int 0, .int 0, .int 0, .null, .int 0, .null, .null, .null, .null, .null, .null, .int 0])), (17, .inl (eI E, 54, .inl (fun _ => 0))), (18, .inl (eI E, 6, .inl (fun _ => 0))), (19, .inl (eI E, 6, .inl (fun _ => 0))), (20, .inl (eI E, 10, .inl (fun _ => 0)))]) H _ := hH
  have F : FX p m c cX5_init 1 s ([.ref (eAd E 15)] : List Value).toArray wsX5_init RX5 (eNew (eNew (eNew (eNew (eNew E 16 q1) 17 q2) 18 q3) 19 q4) 20 q5) := F
  refine r_putF (ty := .array .int) (x := .ref q5) F hH hin inX5 tyX5 tyX5_ok nmX5 (mem_old (mem_old (mem_old (mem_old (mem_old hk))))) rfl rfl rfl 15 (by decide) (hts (.fieldLink RX5 35 "DryingKilnModel" "flow" "[I") (by decide +kernel)) (fun _ h => h) rfl rfl (by decide +kernel) rfl rfl (Nat.le_of_ble_eq_true rfl) dX5_init_67 (fun H locs hH => ?_)
  rw [lf_ups] at hH
  have hH : HFS (eNew (eNew (eNew (eNew (eNew E 16 q1) 17 q2) 18 q3) 19 q4) 20 q5) s.heap (lf f [(16, .inl (eI E, 6, .inl (fun _ => 0))), (15, .inr (6, [.int 0, .ref q1, .ref q2, .ref q3, .ref q4, .int 0, .int 200, .int 50, .int 200, .int 120, .int 0, .int 0, .int 0, .int 0, .int 0, .ref q5, .int 0, .null, .null, .null, .null, .null, .null, .int 0])), (17, .inl (eI E, 54, .inl (fun _ => 0))), (18, .inl (eI E, 6, .inl (fun _ => 0))), (19, .inl (eI E, 6, .inl (fun _ => 0))), (20, .inl (eI E, 10, .inl (fun _ => 0)))]) H locs := hH
  refine lv_aload_n hx hb dX5_init_70 rfl (lv_at hl 0 rfl) ?_
  refine lv_bipush (v := 8) hx hb dX5_init_71 (by decide) ?_
  refine r_newa F hH 21 (not_new (not_new (not_new (not_new (not_new (hn 21 (by decide)) (by decide)) (by decide)) (by decide)) (by decide)) (by decide)) (hts (.arrayClass .int) (by decide +kernel)) 8 rfl (by decide) (Nat.le_of_ble_eq_true rfl) (Nat.le_of_ble_eq_true rfl) dX5_init_73 (fun q6 H hH => ?_)
  rw [lf_ups] at hH
  have hH : HFS (eNew (eNew (eNew (eNew (eNew (eNew E 16 q1) 17 q2) 18 q3) 19 q4) 20 q5) 21 q6) s.heap (lf f [(16, .inl (eI E, 6, .inl (fun _ => 0))), (15, .inr (6, [.int 0, .ref q1, .ref q2, .ref q3, .ref q4, .int 0, .int 200, .int 50, .int 200, .int 120, .int 0, .int 0, .int 0, .int 0, .int 0, .ref q5, .int 0, .null, .null, .null, .null, .null, .null, .int 0])), (17, .inl (eI E, 54, .inl (fun _ => 0))), (18, .inl (eI E, 6, .inl (fun _ => 0))), (19, .inl (eI E, 6, .inl (fun _ => 0))), (20, .inl (eI E, 10, .inl (fun _ => 0))), (21, .inl (eI E, 8, .inl (fun _ => 0)))]) H _ := hH
  have F : FX p m c cX5_init 1 s ([.ref (eAd E 15)] : List Value).toArray wsX5_init RX5 (eNew (eNew (eNew (eNew (eNew (eNew E 16 q1) 17 q2) 18 q3) 19 q4) 20 q5) 21 q6) := F
  refine r_putF (ty := .array .int) (x := .ref q6) F hH hin inX5 tyX5 tyX5_ok nmX5 (mem_old (mem_old (mem_old (mem_old (mem_old (mem_old hk)))))) rfl rfl rfl 17 (by decide) (hts (.fieldLink RX5 38 "DryingKilnModel" "thresholdOf" "[I") (by decide +kernel)) (fun _ h => h) rfl rfl (by decide +kernel) rfl rfl (Nat.le_of_ble_eq_true rfl) dX5_init_75 (fun H locs hH => ?_)
  rw [lf_ups] at hH
  have hH : HFS (eNew (eNew (eNew (eNew (eNew (eNew E 16 q1) 17 q2) 18 q3) 19 q4) 20 q5) 21 q6) s.heap (lf f [(16, .inl (eI E, 6, .inl (fun _ => 0))), (15, .inr (6, [.int 0, .ref q1, .ref q2, .ref q3, .ref q4, .int 0, .int 200, .int 50, .int 200, .int 120, .int 0, .int 0, .int 0, .int 0, .int 0, .ref q5, .int 0, .ref q6, .null, .null, .null, .null, .null, .int 0])), (17, .inl (eI E, 54, .inl (fun _ => 0))), (18, .inl (eI E, 6, .inl (fun _ => 0))), (19, .inl (eI E, 6, .inl (fun _ => 0))), (20, .inl (eI E, 10, .inl (fun _ => 0))), (21, .inl (eI E, 8, .inl (fun _ => 0)))]) H locs := hH
  refine lv_aload_n hx hb dX5_init_78 rfl (lv_at hl 0 rfl) ?_
  refine lv_bipush (v := 8) hx hb dX5_init_79 (by decide) ?_
  refine r_newa F hH 22 (not_new (not_new (not_new (not_new (not_new (not_new (hn 22 (by decide)) (by decide)) (by decide)) (by decide)) (by decide)) (by decide)) (by decide)) (hts (.arrayClass .int) (by decide +kernel)) 8 rfl (by decide) (Nat.le_of_ble_eq_true rfl) (Nat.le_of_ble_eq_true rfl) dX5_init_81 (fun q7 H hH => ?_)
  rw [lf_ups] at hH
  have hH : HFS (eNew (eNew (eNew (eNew (eNew (eNew (eNew E 16 q1) 17 q2) 18 q3) 19 q4) 20 q5) 21 q6) 22 q7) s.heap (lf f [(16, .inl (eI E, 6, .inl (fun _ => 0))), (15, .inr (6, [.int 0, .ref q1, .ref q2, .ref q3, .ref q4, .int 0, .int 200, .int 50, .int 200, .int 120, .int 0, .int 0, .int 0, .int 0, .int 0, .ref q5, .int 0, .ref q6, .null, .null, .null, .null, .null, .int 0])), (17, .inl (eI E, 54, .inl (fun _ => 0))), (18, .inl (eI E, 6, .inl (fun _ => 0))), (19, .inl (eI E, 6, .inl (fun _ => 0))), (20, .inl (eI E, 10, .inl (fun _ => 0))), (21, .inl (eI E, 8, .inl (fun _ => 0))), (22, .inl (eI E, 8, .inl (fun _ => 0)))]) H _ := hH
  have F : FX p m c cX5_init 1 s ([.ref (eAd E 15)] : List Value).toArray wsX5_init RX5 (eNew (eNew (eNew (eNew (eNew (eNew (eNew E 16 q1) 17 q2) 18 q3) 19 q4) 20 q5) 21 q6) 22 q7) := F
  refine r_putF (ty := .array .int) (x := .ref q7) F hH hin inX5 tyX5 tyX5_ok nmX5 (mem_old (mem_old (mem_old (mem_old (mem_old (mem_old (mem_old hk))))))) rfl rfl rfl 18 (by decide) (hts (.fieldLink RX5 41 "DryingKilnModel" "inletOf" "[I") (by decide +kernel)) (fun _ h => h) rfl rfl (by decide +kernel) rfl rfl (Nat.le_of_ble_eq_true rfl) dX5_init_83 (fun H locs hH => ?_)
  rw [lf_ups] at hH
  have hH : HFS (eNew (eNew (eNew (eNew (eNew (eNew (eNew E 16 q1) 17 q2) 18 q3) 19 q4) 20 q5) 21 q6) 22 q7) s.heap (lf f [(16, .inl (eI E, 6, .inl (fun _ => 0))), (15, .inr (6, [.int 0, .ref q1, .ref q2, .ref q3, .ref q4, .int 0, .int 200, .int 50, .int 200, .int 120, .int 0, .int 0, .int 0, .int 0, .int 0, .ref q5, .int 0, .ref q6, .ref q7, .null, .null, .null, .null, .int 0])), (17, .inl (eI E, 54, .inl (fun _ => 0))), (18, .inl (eI E, 6, .inl (fun _ => 0))), (19, .inl (eI E, 6, .inl (fun _ => 0))), (20, .inl (eI E, 10, .inl (fun _ => 0))), (21, .inl (eI E, 8, .inl (fun _ => 0))), (22, .inl (eI E, 8, .inl (fun _ => 0)))]) H locs := hH
  refine lv_aload_n hx hb dX5_init_86 rfl (lv_at hl 0 rfl) ?_
  refine lv_bipush (v := 54) hx hb dX5_init_87 (by decide) ?_
  refine r_newa F hH 23 (not_new (not_new (not_new (not_new (not_new (not_new (not_new (hn 23 (by decide)) (by decide)) (by decide)) (by decide)) (by decide)) (by decide)) (by decide)) (by decide)) (hts (.arrayClass .int) (by decide +kernel)) 54 rfl (by decide) (Nat.le_of_ble_eq_true rfl) (Nat.le_of_ble_eq_true rfl) dX5_init_89 (fun q8 H hH => ?_)
  rw [lf_ups] at hH
  have hH : HFS (eNew (eNew (eNew (eNew (eNew (eNew (eNew (eNew E 16 q1) 17 q2) 18 q3) 19 q4) 20 q5) 21 q6) 22 q7) 23 q8) s.heap (lf f [(16, .inl (eI E, 6, .inl (fun _ => 0))), (15, .inr (6, [.int 0, .ref q1, .ref q2, .ref q3, .ref q4, .int 0, .int 200, .int 50, .int 200, .int 120, .int 0, .int 0, .int 0, .int 0, .int 0, .ref q5, .int 0, .ref q6, .ref q7, .null, .null, .null, .null, .int 0])), (17, .inl (eI E, 54, .inl (fun _ => 0))), (18, .inl (eI E, 6, .inl (fun _ => 0))), (19, .inl (eI E, 6, .inl (fun _ => 0))), (20, .inl (eI E, 10, .inl (fun _ => 0))), (21, .inl (eI E, 8, .inl (fun _ => 0))), (22, .inl (eI E, 8, .inl (fun _ => 0))), (23, .inl (eI E, 54, .inl (fun _ => 0)))]) H _ := hH
  have F : FX p m c cX5_init 1 s ([.ref (eAd E 15)] : List Value).toArray wsX5_init RX5 (eNew (eNew (eNew (eNew (eNew (eNew (eNew (eNew E 16 q1) 17 q2) 18 q3) 19 q4) 20 q5) 21 q6) 22 q7) 23 q8) := F
  refine r_putF (ty := .array .int) (x := .ref q8) F hH hin inX5 tyX5 tyX5_ok nmX5 (mem_old (mem_old (mem_old (mem_old (mem_old (mem_old (mem_old (mem_old hk)))))))) rfl rfl rfl 19 (by decide) (hts (.fieldLink RX5 44 "DryingKilnModel" "savedCells" "[I") (by decide +kernel)) (fun _ h => h) rfl rfl (by decide +kernel) rfl rfl (Nat.le_of_ble_eq_true rfl) dX5_init_91 (fun H locs hH => ?_)
  rw [lf_ups] at hH
  have hH : HFS (eNew (eNew (eNew (eNew (eNew (eNew (eNew (eNew E 16 q1) 17 q2) 18 q3) 19 q4) 20 q5) 21 q6) 22 q7) 23 q8) s.heap (lf f [(16, .inl (eI E, 6, .inl (fun _ => 0))), (15, .inr (6, [.int 0, .ref q1, .ref q2, .ref q3, .ref q4, .int 0, .int 200, .int 50, .int 200, .int 120, .int 0, .int 0, .int 0, .int 0, .int 0, .ref q5, .int 0, .ref q6, .ref q7, .ref q8, .null, .null, .null, .int 0])), (17, .inl (eI E, 54, .inl (fun _ => 0))), (18, .inl (eI E, 6, .inl (fun _ => 0))), (19, .inl (eI E, 6, .inl (fun _ => 0))), (20, .inl (eI E, 10, .inl (fun _ => 0))), (21, .inl (eI E, 8, .inl (fun _ => 0))), (22, .inl (eI E, 8, .inl (fun _ => 0))), (23, .inl (eI E, 54, .inl (fun _ => 0)))]) H locs := hH
  refine lv_aload_n hx hb dX5_init_94 rfl (lv_at hl 0 rfl) ?_
  refine lv_bipush (v := 6) hx hb dX5_init_95 (by decide) ?_
  refine r_newa F hH 24 (not_new (not_new (not_new (not_new (not_new (not_new (not_new (not_new (hn 24 (by decide)) (by decide)) (by decide)) (by decide)) (by decide)) (by decide)) (by decide)) (by decide)) (by decide)) (hts (.arrayClass .int) (by decide +kernel)) 6 rfl (by decide) (Nat.le_of_ble_eq_true rfl) (Nat.le_of_ble_eq_true rfl) dX5_init_97 (fun q9 H hH => ?_)
  rw [lf_ups] at hH
  have hH : HFS (eNew (eNew (eNew (eNew (eNew (eNew (eNew (eNew (eNew E 16 q1) 17 q2) 18 q3) 19 q4) 20 q5) 21 q6) 22 q7) 23 q8) 24 q9) s.heap (lf f [(16, .inl (eI E, 6, .inl (fun _ => 0))), (15, .inr (6, [.int 0, .ref q1, .ref q2, .ref q3, .ref q4, .int 0, .int 200, .int 50, .int 200, .int 120, .int 0, .int 0, .int 0, .int 0, .int 0, .ref q5, .int 0, .ref q6, .ref q7, .ref q8, .null, .null, .null, .int 0])), (17, .inl (eI E, 54, .inl (fun _ => 0))), (18, .inl (eI E, 6, .inl (fun _ => 0))), (19, .inl (eI E, 6, .inl (fun _ => 0))), (20, .inl (eI E, 10, .inl (fun _ => 0))), (21, .inl (eI E, 8, .inl (fun _ => 0))), (22, .inl (eI E, 8, .inl (fun _ => 0))), (23, .inl (eI E, 54, .inl (fun _ => 0))), (24, .inl (eI E, 6, .inl (fun _ => 0)))]) H _ := hH
  have F : FX p m c cX5_init 1 s ([.ref (eAd E 15)] : List Value).toArray wsX5_init RX5 (eNew (eNew (eNew (eNew (eNew (eNew (eNew (eNew (eNew E 16 q1) 17 q2) 18 q3) 19 q4) 20 q5) 21 q6) 22 q7) 23 q8) 24 q9) := F
  refine r_putF (ty := .array .int) (x := .ref q9) F hH hin inX5 tyX5 tyX5_ok nmX5 (mem_old (mem_old (mem_old (mem_old (mem_old (mem_old (mem_old (mem_old (mem_old hk))))))))) rfl rfl rfl 20 (by decide) (hts (.fieldLink RX5 47 "DryingKilnModel" "savedAir" "[I") (by decide +kernel)) (fun _ h => h) rfl rfl (by decide +kernel) rfl rfl (Nat.le_of_ble_eq_true rfl) dX5_init_99 (fun H locs hH => ?_)
  rw [lf_ups] at hH
  have hH : HFS (eNew (eNew (eNew (eNew (eNew (eNew (eNew (eNew (eNew E 16 q1) 17 q2) 18 q3) 19 q4) 20 q5) 21 q6) 22 q7) 23 q8) 24 q9) s.heap (lf f [(16, .inl (eI E, 6, .inl (fun _ => 0))), (15, .inr (6, [.int 0, .ref q1, .ref q2, .ref q3, .ref q4, .int 0, .int 200, .int 50, .int 200, .int 120, .int 0, .int 0, .int 0, .int 0, .int 0, .ref q5, .int 0, .ref q6, .ref q7, .ref q8, .ref q9, .null, .null, .int 0])), (17, .inl (eI E, 54, .inl (fun _ => 0))), (18, .inl (eI E, 6, .inl (fun _ => 0))), (19, .inl (eI E, 6, .inl (fun _ => 0))), (20, .inl (eI E, 10, .inl (fun _ => 0))), (21, .inl (eI E, 8, .inl (fun _ => 0))), (22, .inl (eI E, 8, .inl (fun _ => 0))), (23, .inl (eI E, 54, .inl (fun _ => 0))), (24, .inl (eI E, 6, .inl (fun _ => 0)))]) H locs := hH
  refine lv_aload_n hx hb dX5_init_102 rfl (lv_at hl 0 rfl) ?_
  refine lv_bipush (v := 54) hx hb dX5_init_103 (by decide) ?_
  refine r_newa F hH 25 (not_new (not_new (not_new (not_new (not_new (not_new (not_new (not_new (not_new (hn 25 (by decide)) (by decide)) (by decide)) (by decide)) (by decide)) (by decide)) (by decide)) (by decide)) (by decide)) (by decide)) (hts (.arrayClass .int) (by decide +kernel)) 54 rfl (by decide) (Nat.le_of_ble_eq_true rfl) (Nat.le_of_ble_eq_true rfl) dX5_init_105 (fun q10 H hH => ?_)
  rw [lf_ups] at hH
  have hH : HFS (eNew (eNew (eNew (eNew (eNew (eNew (eNew (eNew (eNew (eNew E 16 q1) 17 q2) 18 q3) 19 q4) 20 q5) 21 q6) 22 q7) 23 q8) 24 q9) 25 q10) s.heap (lf f [(16, .inl (eI E, 6, .inl (fun _ => 0))), (15, .inr (6, [.int 0, .ref q1, .ref q2, .ref q3, .ref q4, .int 0, .int 200, .int 50, .int 200, .int 120, .int 0, .int 0, .int 0, .int 0, .int 0, .ref q5, .int 0, .ref q6, .ref q7, .ref q8, .ref q9, .null, .null, .int 0])), (17, .inl (eI E, 54, .inl (fun _ => 0))), (18, .inl (eI E, 6, .inl (fun _ => 0))), (19, .inl (eI E, 6, .inl (fun _ => 0))), (20, .inl (eI E, 10, .inl (fun _ => 0))), (21, .inl (eI E, 8, .inl (fun _ => 0))), (22, .inl (eI E, 8, .inl (fun _ => 0))), (23, .inl (eI E, 54, .inl (fun _ => 0))), (24, .inl (eI E, 6, .inl (fun _ => 0))), (25, .inl (eI E, 54, .inl (fun _ => 0)))]) H _ := hH
  have F : FX p m c cX5_init 1 s ([.ref (eAd E 15)] : List Value).toArray wsX5_init RX5 (eNew (eNew (eNew (eNew (eNew (eNew (eNew (eNew (eNew (eNew E 16 q1) 17 q2) 18 q3) 19 q4) 20 q5) 21 q6) 22 q7) 23 q8) 24 q9) 25 q10) := F
  refine r_putF (ty := .array .int) (x := .ref q10) F hH hin inX5 tyX5 tyX5_ok nmX5 (mem_old (mem_old (mem_old (mem_old (mem_old (mem_old (mem_old (mem_old (mem_old (mem_old hk)))))))))) rfl rfl rfl 21 (by decide) (hts (.fieldLink RX5 50 "DryingKilnModel" "hourCells" "[I") (by decide +kernel)) (fun _ h => h) rfl rfl (by decide +kernel) rfl rfl (Nat.le_of_ble_eq_true rfl) dX5_init_107 (fun H locs hH => ?_)
  rw [lf_ups] at hH
  have hH : HFS (eNew (eNew (eNew (eNew (eNew (eNew (eNew (eNew (eNew (eNew E 16 q1) 17 q2) 18 q3) 19 q4) 20 q5) 21 q6) 22 q7) 23 q8) 24 q9) 25 q10) s.heap (lf f [(16, .inl (eI E, 6, .inl (fun _ => 0))), (15, .inr (6, [.int 0, .ref q1, .ref q2, .ref q3, .ref q4, .int 0, .int 200, .int 50, .int 200, .int 120, .int 0, .int 0, .int 0, .int 0, .int 0, .ref q5, .int 0, .ref q6, .ref q7, .ref q8, .ref q9, .ref q10, .null, .int 0])), (17, .inl (eI E, 54, .inl (fun _ => 0))), (18, .inl (eI E, 6, .inl (fun _ => 0))), (19, .inl (eI E, 6, .inl (fun _ => 0))), (20, .inl (eI E, 10, .inl (fun _ => 0))), (21, .inl (eI E, 8, .inl (fun _ => 0))), (22, .inl (eI E, 8, .inl (fun _ => 0))), (23, .inl (eI E, 54, .inl (fun _ => 0))), (24, .inl (eI E, 6, .inl (fun _ => 0))), (25, .inl (eI E, 54, .inl (fun _ => 0)))]) H locs := hH
  refine lv_aload_n hx hb dX5_init_110 rfl (lv_at hl 0 rfl) ?_
  refine lv_sipush (v := 300) hx hb dX5_init_111 (by decide) ?_
  refine r_newa F hH 26 (not_new (not_new (not_new (not_new (not_new (not_new (not_new (not_new (not_new (not_new (hn 26 (by decide)) (by decide)) (by decide)) (by decide)) (by decide)) (by decide)) (by decide)) (by decide)) (by decide)) (by decide)) (by decide)) (hts (.arrayClass .int) (by decide +kernel)) 300 rfl (by decide) (Nat.le_of_ble_eq_true rfl) (Nat.le_of_ble_eq_true rfl) dX5_init_114 (fun q11 H hH => ?_)
  rw [lf_ups] at hH
  have hH : HFS (eNew (eNew (eNew (eNew (eNew (eNew (eNew (eNew (eNew (eNew (eNew E 16 q1) 17 q2) 18 q3) 19 q4) 20 q5) 21 q6) 22 q7) 23 q8) 24 q9) 25 q10) 26 q11) s.heap (lf f [(16, .inl (eI E, 6, .inl (fun _ => 0))), (15, .inr (6, [.int 0, .ref q1, .ref q2, .ref q3, .ref q4, .int 0, .int 200, .int 50, .int 200, .int 120, .int 0, .int 0, .int 0, .int 0, .int 0, .ref q5, .int 0, .ref q6, .ref q7, .ref q8, .ref q9, .ref q10, .null, .int 0])), (17, .inl (eI E, 54, .inl (fun _ => 0))), (18, .inl (eI E, 6, .inl (fun _ => 0))), (19, .inl (eI E, 6, .inl (fun _ => 0))), (20, .inl (eI E, 10, .inl (fun _ => 0))), (21, .inl (eI E, 8, .inl (fun _ => 0))), (22, .inl (eI E, 8, .inl (fun _ => 0))), (23, .inl (eI E, 54, .inl (fun _ => 0))), (24, .inl (eI E, 6, .inl (fun _ => 0))), (25, .inl (eI E, 54, .inl (fun _ => 0))), (26, .inl (eI E, 300, .inl (fun _ => 0)))]) H _ := hH
  have F : FX p m c cX5_init 1 s ([.ref (eAd E 15)] : List Value).toArray wsX5_init RX5 (eNew (eNew (eNew (eNew (eNew (eNew (eNew (eNew (eNew (eNew (eNew E 16 q1) 17 q2) 18 q3) 19 q4) 20 q5) 21 q6) 22 q7) 23 q8) 24 q9) 25 q10) 26 q11) := F
  refine r_putF (ty := .array .int) (x := .ref q11) F hH hin inX5 tyX5 tyX5_ok nmX5 (mem_old (mem_old (mem_old (mem_old (mem_old (mem_old (mem_old (mem_old (mem_old (mem_old (mem_old hk))))))))))) rfl rfl rfl 22 (by decide) (hts (.fieldLink RX5 53 "DryingKilnModel" "plan" "[I") (by decide +kernel)) (fun _ h => h) rfl rfl (by decide +kernel) rfl rfl (Nat.le_of_ble_eq_true rfl) dX5_init_116 (fun H locs hH => ?_)
  rw [lf_ups] at hH
  have hH : HFS (eNew (eNew (eNew (eNew (eNew (eNew (eNew (eNew (eNew (eNew (eNew E 16 q1) 17 q2) 18 q3) 19 q4) 20 q5) 21 q6) 22 q7) 23 q8) 24 q9) 25 q10) 26 q11) s.heap (lf f [(16, .inl (eI E, 6, .inl (fun _ => 0))), (15, .inr (6, [.int 0, .ref q1, .ref q2, .ref q3, .ref q4, .int 0, .int 200, .int 50, .int 200, .int 120, .int 0, .int 0, .int 0, .int 0, .int 0, .ref q5, .int 0, .ref q6, .ref q7, .ref q8, .ref q9, .ref q10, .ref q11, .int 0])), (17, .inl (eI E, 54, .inl (fun _ => 0))), (18, .inl (eI E, 6, .inl (fun _ => 0))), (19, .inl (eI E, 6, .inl (fun _ => 0))), (20, .inl (eI E, 10, .inl (fun _ => 0))), (21, .inl (eI E, 8, .inl (fun _ => 0))), (22, .inl (eI E, 8, .inl (fun _ => 0))), (23, .inl (eI E, 54, .inl (fun _ => 0))), (24, .inl (eI E, 6, .inl (fun _ => 0))), (25, .inl (eI E, 54, .inl (fun _ => 0))), (26, .inl (eI E, 300, .inl (fun _ => 0)))]) H locs := hH
  refine lv_aload_n hx hb dX5_init_119 rfl (lv_at hl 0 rfl) ?_
  refine lv_bipush (v := 100) hx hb dX5_init_120 (by decide) ?_
  refine r_put (ty := .int) (x := .int 100) F hH inX5 tyX5 tyX5_ok nmX5 (mem_old (mem_old (mem_old (mem_old (mem_old (mem_old (mem_old (mem_old (mem_old (mem_old (mem_old hk))))))))))) rfl rfl rfl 5 (by decide) (hts (.fieldLink RX5 56 "DryingKilnModel" "diffusionNow" "I") (by decide +kernel)) (fun _ h => h) rfl (by decide +kernel) rfl rfl (Nat.le_of_ble_eq_true rfl) dX5_init_122 (fun H locs hH => ?_)
  rw [lf_ups] at hH
  have hH : HFS (eNew (eNew (eNew (eNew (eNew (eNew (eNew (eNew (eNew (eNew (eNew E 16 q1) 17 q2) 18 q3) 19 q4) 20 q5) 21 q6) 22 q7) 23 q8) 24 q9) 25 q10) 26 q11) s.heap (lf f [(16, .inl (eI E, 6, .inl (fun _ => 0))), (15, .inr (6, [.int 0, .ref q1, .ref q2, .ref q3, .ref q4, .int 100, .int 200, .int 50, .int 200, .int 120, .int 0, .int 0, .int 0, .int 0, .int 0, .ref q5, .int 0, .ref q6, .ref q7, .ref q8, .ref q9, .ref q10, .ref q11, .int 0])), (17, .inl (eI E, 54, .inl (fun _ => 0))), (18, .inl (eI E, 6, .inl (fun _ => 0))), (19, .inl (eI E, 6, .inl (fun _ => 0))), (20, .inl (eI E, 10, .inl (fun _ => 0))), (21, .inl (eI E, 8, .inl (fun _ => 0))), (22, .inl (eI E, 8, .inl (fun _ => 0))), (23, .inl (eI E, 54, .inl (fun _ => 0))), (24, .inl (eI E, 6, .inl (fun _ => 0))), (25, .inl (eI E, 54, .inl (fun _ => 0))), (26, .inl (eI E, 300, .inl (fun _ => 0)))]) H locs := hH
  refine W.widen (k := 11) (n := 512) (Nat.le_of_ble_eq_true rfl) (Nat.le_of_ble_eq_true rfl) ?_
  exact W.vret hx hb hr (fun t ht hW => ⟨⟨fun k => if k = 16 then q1 else if k = 17 then q2 else if k = 18 then q3 else if k = 19 then q4 else if k = 20 then q5 else if k = 21 then q6 else if k = 22 then q7 else if k = 23 then q8 else if k = 24 then q9 else if k = 25 then q10 else if k = 26 then q11 else 0, rfl, trivial, (by show HF (eNew (eNew (eNew (eNew (eNew (eNew (eNew (eNew (eNew (eNew (eNew E 16 q1) 17 q2) 18 q3) 19 q4) 20 q5) 21 q6) 22 q7) 23 q8) 24 q9) 25 q10) 26 q11) (lf f [(16, .inl (eI E, 6, .inl (fun _ => 0))), (15, .inr (6, [.int 0, .ref q1, .ref q2, .ref q3, .ref q4, .int 100, .int 200, .int 50, .int 200, .int 120, .int 0, .int 0, .int 0, .int 0, .int 0, .ref q5, .int 0, .ref q6, .ref q7, .ref q8, .ref q9, .ref q10, .ref q11, .int 0])), (17, .inl (eI E, 54, .inl (fun _ => 0))), (18, .inl (eI E, 6, .inl (fun _ => 0))), (19, .inl (eI E, 6, .inl (fun _ => 0))), (20, .inl (eI E, 10, .inl (fun _ => 0))), (21, .inl (eI E, 8, .inl (fun _ => 0))), (22, .inl (eI E, 8, .inl (fun _ => 0))), (23, .inl (eI E, 54, .inl (fun _ => 0))), (24, .inl (eI E, 6, .inl (fun _ => 0))), (25, .inl (eI E, 54, .inl (fun _ => 0))), (26, .inl (eI E, 300, .inl (fun _ => 0)))]) t.heap; rw [ht]; exact hH.1)⟩, hH.2.F ht⟩) hH.2.2.2 dX5_init_125 hlk

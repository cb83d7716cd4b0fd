/-! both objects made -/
theorem eI_new (E : Ev) (k q : Nat) : eI (eNew E k q) = eI E := rfl
theorem eZ_new (E : Ev) (k q : Nat) : eZ (eNew E k q) = eZ E := rfl
theorem eNb_new (E : Ev) (k q : Nat) : eNb (eNew E k q) = eNb E := rfl
theorem eLn_new (E : Ev) (k q : Nat) : eLn (eNew E k q) = eLn E := rfl
theorem eA_new (E : Ev) (k q : Nat) : eA (eNew E k q) = eA E := rfl
theorem eAd_new (E : Ev) (k q : Nat) : eAd (eNew E k q) = va_up (eAd E) k q := rfl
theorem eK_new (E : Ev) (k q : Nat) : eK (eNew E k q) = eK E ++ [k] := rfl
def N4 (E : Ev) (u : Nat → Nat) : Ev := eNew (eNew (eNew (eNew (eNew (eNew (eNew (eNew (eNew (eNew (eNew E 1 (u 1)) 2 (u 2)) 3 (u 3)) 4 (u 4)) 5 (u 5)) 8 (u 8)) 6 (u 6)) 9 (u 9)) 7 (u 7)) 10 (u 10)) 11 (u 11)
def T4 (E : Ev) (u : Nat → Nat) : List (Nat × va_E) := [(1, .inr (4, [.int 100, .int 200, .int 50, .int 200, .int 120, .int 0])), (0, .inr (5, [.ref (u 1), .ref (u 2), .ref (u 5), .ref (u 6), .ref (u 7), .ref (u 11), .int 0, .int 0])), (2, .inr (3, [.ref (u 3), .ref (u 4), .int 0])), (4, .inl (eI E, 8, .inl (fun _ => 0))), (3, .inl (eI E, 8, .inl (fun _ => 0))), (5, .inr (2, [.int 0, .int 0, .ref (u 8)])), (8, .inr (0, [.int 0, .ref (eZ E), .int 0])), (6, .inr (2, [.int 0, .int 0, .ref (u 9)])), (9, .inr (0, [.int 0, .ref (eZ E), .int 0])), (7, .inr (2, [.int 0, .int 0, .ref (u 10)])), (10, .inr (0, [.int 0, .ref (eZ E), .int 0])), (11, .inl (eI E, 300, .inl (fun _ => 0)))]
theorem eI_N4 (E : Ev) (u : Nat → Nat) : eI (N4 E u) = eI E := by
  unfold N4
  simp only [eI_new]
theorem eZ_N4 (E : Ev) (u : Nat → Nat) : eZ (N4 E u) = eZ E := by
  unfold N4
  simp only [eZ_new]
theorem eNb_N4 (E : Ev) (u : Nat → Nat) : eNb (N4 E u) = eNb E := by
  unfold N4
  simp only [eNb_new]
theorem eLn_N4 (E : Ev) (u : Nat → Nat) : eLn (N4 E u) = eLn E := by
  unfold N4
  simp only [eLn_new]
theorem eA_N4 (E : Ev) (u : Nat → Nat) : eA (N4 E u) = eA E := by
  unfold N4
  simp only [eA_new]
theorem eK_N4 (E : Ev) (u : Nat → Nat) : eK (N4 E u) = eK E ++ [1, 2, 3, 4, 5, 8, 6, 9, 7, 10, 11] := by
  unfold N4
  simp only [eK_new, List.append_assoc]
  rfl
theorem eAd_N4 (E : Ev) (u : Nat → Nat) : (eAd (N4 E u) 1 = u 1 ∧ eAd (N4 E u) 2 = u 2 ∧ eAd (N4 E u) 3 = u 3 ∧ eAd (N4 E u) 4 = u 4 ∧ eAd (N4 E u) 5 = u 5 ∧ eAd (N4 E u) 8 = u 8 ∧ eAd (N4 E u) 6 = u 6 ∧ eAd (N4 E u) 9 = u 9 ∧ eAd (N4 E u) 7 = u 7 ∧ eAd (N4 E u) 10 = u 10 ∧ eAd (N4 E u) 11 = u 11) ∧ ∀ k, k ∉ [1, 2, 3, 4, 5, 8, 6, 9, 7, 10, 11] → eAd (N4 E u) k = eAd E k := by
  unfold N4
  simp only [eAd_new]
  refine ⟨⟨?_, ?_, ?_, ?_, ?_, ?_, ?_, ?_, ?_, ?_, ?_⟩, fun k hk => ?_⟩
  · rw [up_ne _ _ (by decide), up_ne _ _ (by decide), up_ne _ _ (by decide), up_ne _ _ (by decide), up_ne _ _ (by decide), up_ne _ _ (by decide), up_ne _ _ (by decide), up_ne _ _ (by decide), up_ne _ _ (by decide), up_ne _ _ (by decide), up_at]
  · rw [up_ne _ _ (by decide), up_ne _ _ (by decide), up_ne _ _ (by decide), up_ne _ _ (by decide), up_ne _ _ (by decide), up_ne _ _ (by decide), up_ne _ _ (by decide), up_ne _ _ (by decide), up_ne _ _ (by decide), up_at]
  · rw [up_ne _ _ (by decide), up_ne _ _ (by decide), up_ne _ _ (by decide), up_ne _ _ (by decide), up_ne _ _ (by decide), up_ne _ _ (by decide), up_ne _ _ (by decide), up_ne _ _ (by decide), up_at]
  · rw [up_ne _ _ (by decide), up_ne _ _ (by decide), up_ne _ _ (by decide), up_ne _ _ (by decide), up_ne _ _ (by decide), up_ne _ _ (by decide), up_ne _ _ (by decide), up_at]
  · rw [up_ne _ _ (by decide), up_ne _ _ (by decide), up_ne _ _ (by decide), up_ne _ _ (by decide), up_ne _ _ (by decide), up_ne _ _ (by decide), up_at]
  · rw [up_ne _ _ (by decide), up_ne _ _ (by decide), up_ne _ _ (by decide), up_ne _ _ (by decide), up_ne _ _ (by decide), up_at]
  · rw [up_ne _ _ (by decide), up_ne _ _ (by decide), up_ne _ _ (by decide), up_ne _ _ (by decide), up_at]
  · rw [up_ne _ _ (by decide), up_ne _ _ (by decide), up_ne _ _ (by decide), up_at]
  · rw [up_ne _ _ (by decide), up_ne _ _ (by decide), up_at]
  · rw [up_ne _ _ (by decide), up_at]
  · rw [up_at]
  · simp only [List.mem_cons, List.not_mem_nil, or_false, not_or] at hk
    obtain ⟨h1, h2, h3, h4, h5, h8, h6, h9, h7, h10, h11⟩ := hk
    rw [up_ne _ _ h11, up_ne _ _ h10, up_ne _ _ h7, up_ne _ _ h9, up_ne _ _ h6, up_ne _ _ h8, up_ne _ _ h5, up_ne _ _ h4, up_ne _ _ h3, up_ne _ _ h2, up_ne _ _ h1]
def N5 (E : Ev) (u : Nat → Nat) : Ev := eNew (eNew (eNew (eNew (eNew (eNew (eNew (eNew (eNew (eNew (eNew E 16 (u 16)) 17 (u 17)) 18 (u 18)) 19 (u 19)) 20 (u 20)) 21 (u 21)) 22 (u 22)) 23 (u 23)) 24 (u 24)) 25 (u 25)) 26 (u 26)
def T5 (E : Ev) (u : Nat → Nat) : List (Nat × va_E) := [(16, .inl (eI E, 6, .inl (fun _ => 0))), (15, .inr (6, [.int 0, .ref (u 16), .ref (u 17), .ref (u 18), .ref (u 19), .int 100, .int 200, .int 50, .int 200, .int 120, .int 0, .int 0, .int 0, .int 0, .int 0, .ref (u 20), .int 0, .ref (u 21), .ref (u 22), .ref (u 23), .ref (u 24), .ref (u 25), .ref (u 26), .int 0])), (17, .inl (eI E, 54, .inl (fun _ => 0))), (18, .inl (eI E, 6, .inl (fun _ => 0))), (19, .inl (eI E, 6, .inl (fun _ => 0))), (20, .inl (eI E, 10, .inl (fun _ => 0))), (21, .inl (eI E, 8, .inl (fun _ => 0))), (22, .inl (eI E, 8, .inl (fun _ => 0))), (23, .inl (eI E, 54, .inl (fun _ => 0))), (24, .inl (eI E, 6, .inl (fun _ => 0))), (25, .inl (eI E, 54, .inl (fun _ => 0))), (26, .inl (eI E, 300, .inl (fun _ => 0)))]
theorem eI_N5 (E : Ev) (u : Nat → Nat) : eI (N5 E u) = eI E := by
  unfold N5
  simp only [eI_new]
theorem eZ_N5 (E : Ev) (u : Nat → Nat) : eZ (N5 E u) = eZ E := by
  unfold N5
  simp only [eZ_new]
theorem eNb_N5 (E : Ev) (u : Nat → Nat) : eNb (N5 E u) = eNb E := by
  unfold N5
  simp only [eNb_new]
theorem eLn_N5 (E : Ev) (u : Nat → Nat) : eLn (N5 E u) = eLn E := by
  unfold N5
  simp only [eLn_new]
theorem eA_N5 (E : Ev) (u : Nat → Nat) : eA (N5 E u) = eA E := by
  unfold N5
  simp only [eA_new]
theorem eK_N5 (E : Ev) (u : Nat → Nat) : eK (N5 E u) = eK E ++ [16, 17, 18, 19, 20, 21, 22, 23, 24, 25, 26] := by
  unfold N5
  simp only [eK_new, List.append_assoc]
  rfl
theorem eAd_N5 (E : Ev) (u : Nat → Nat) : (eAd (N5 E u) 16 = u 16 ∧ eAd (N5 E u) 17 = u 17 ∧ eAd (N5 E u) 18 = u 18 ∧ eAd (N5 E u) 19 = u 19 ∧ eAd (N5 E u) 20 = u 20 ∧ eAd (N5 E u) 21 = u 21 ∧ eAd (N5 E u) 22 = u 22 ∧ eAd (N5 E u) 23 = u 23 ∧ eAd (N5 E u) 24 = u 24 ∧ eAd (N5 E u) 25 = u 25 ∧ eAd (N5 E u) 26 = u 26) ∧ ∀ k, k ∉ [16, 17, 18, 19, 20, 21, 22, 23, 24, 25, 26] → eAd (N5 E u) k = eAd E k := by
  unfold N5
  simp only [eAd_new]
  refine ⟨⟨?_, ?_, ?_, ?_, ?_, ?_, ?_, ?_, ?_, ?_, ?_⟩, fun k hk => ?_⟩
  · rw [up_ne _ _ (by decide), up_ne _ _ (by decide), up_ne _ _ (by decide), up_ne _ _ (by decide), up_ne _ _ (by decide), up_ne _ _ (by decide), up_ne _ _ (by decide), up_ne _ _ (by decide), up_ne _ _ (by decide), up_ne _ _ (by decide), up_at]
  · rw [up_ne _ _ (by decide), up_ne _ _ (by decide), up_ne _ _ (by decide), up_ne _ _ (by decide), up_ne _ _ (by decide), up_ne _ _ (by decide), up_ne _ _ (by decide), up_ne _ _ (by decide), up_ne _ _ (by decide), up_at]
  · rw [up_ne _ _ (by decide), up_ne _ _ (by decide), up_ne _ _ (by decide), up_ne _ _ (by decide), up_ne _ _ (by decide), up_ne _ _ (by decide), up_ne _ _ (by decide), up_ne _ _ (by decide), up_at]
  · rw [up_ne _ _ (by decide), up_ne _ _ (by decide), up_ne _ _ (by decide), up_ne _ _ (by decide), up_ne _ _ (by decide), up_ne _ _ (by decide), up_ne _ _ (by decide), up_at]
  · rw [up_ne _ _ (by decide), up_ne _ _ (by decide), up_ne _ _ (by decide), up_ne _ _ (by decide), up_ne _ _ (by decide), up_ne _ _ (by decide), up_at]
  · rw [up_ne _ _ (by decide), up_ne _ _ (by decide), up_ne _ _ (by decide), up_ne _ _ (by decide), up_ne _ _ (by decide), up_at]
  · rw [up_ne _ _ (by decide), up_ne _ _ (by decide), up_ne _ _ (by decide), up_ne _ _ (by decide), up_at]
  · rw [up_ne _ _ (by decide), up_ne _ _ (by decide), up_ne _ _ (by decide), up_at]
  · rw [up_ne _ _ (by decide), up_ne _ _ (by decide), up_at]
  · rw [up_ne _ _ (by decide), up_at]
  · rw [up_at]
  · simp only [List.mem_cons, List.not_mem_nil, or_false, not_or] at hk
    obtain ⟨h16, h17, h18, h19, h20, h21, h22, h23, h24, h25, h26⟩ := hk
    rw [up_ne _ _ h26, up_ne _ _ h25, up_ne _ _ h24, up_ne _ _ h23, up_ne _ _ h22, up_ne _ _ h21, up_ne _ _ h20, up_ne _ _ h19, up_ne _ _ h18, up_ne _ _ h17, up_ne _ _ h16]
set_option maxHeartbeats 4000000 in
set_option maxRecDepth 100000 in
theorem mk_4 {p : Program} {l : Launch} {e : Env} {s : State} {m : MethodId} {below : List Frame} {meth : Method} {c : Code} {b : Nat} {H : Heap} {locs : List Loc} {ls : Array Slot} {Q : State → Prop} {E : Ev} {f : Nat → va_E} (F : LFX p m c s b E) (hH : HFS E s.heap f H locs) (nK : ∀ j, j ∈ [0, 1, 2, 3, 4, 5, 8, 6, 9, 7, 10, 11] → j ∉ eK E) {lv : List (Nat × Value)} (hl : lv_has ls 4 lv)
    (kk : ∀ (q : Nat) (u : Nat → Nat) (H : Heap) (locs : List Loc), HFS (N4 (eNew E 0 q) u) s.heap (lf (va_up f 0 (.inr (5, [.null, .null, .null, .null, .null, .null, .int 0, .int 0]))) (T4 (eNew E 0 q) u)) H locs → W p l e room_1 s m #[Value.ref b] below meth c H locs (0 + 1 + 11) (0 + 8 + 343) Q (F0 m 7 ls [.ref q])) : W p l e room_1 s m #[Value.ref b] below meth c H locs 0 0 Q (F0 m 0 ls []) := by
  obtain ⟨hx, hb, hml, hown, hts⟩ := id F.1
  refine r_new (C := RX4) (T := TX4) (N := 8) (ci := 5) (fs := [.null, .null, .null, .null, .null, .null, .int 0, .int 0]) F hH 0 (nK 0 (by decide)) inlX4 tyX4 tyX4_ok (hts (.classLink RL 7 RX4) (by decide +kernel)) (hts (.instantiable RX4 8) (by decide +kernel)) (hts (.initialized RX4) (by decide +kernel)) rfl (fun j hj => by rcases (show j = 0 ∨ j = 1 ∨ j = 2 ∨ j = 3 ∨ j = 4 ∨ j = 5 ∨ j = 6 ∨ j = 7 by omega) with rfl | rfl | rfl | rfl | rfl | rfl | rfl | rfl <;> rfl) (Nat.le_of_ble_eq_true rfl) (Nat.le_of_ble_eq_true rfl) dL_law_0 (fun q H hH => ?_)
  have F1 : LFX p m c s b (eNew E 0 q) := F
  refine lv_dup hx hb dL_law_3 rfl ?_
  refine r_iv (As := []) (b := q) F1 hH (c_X4_init l (eNew E 0 q) (va_up f 0 (.inr (5, [.null, .null, .null, .null, .null, .null, .int 0, .int 0]))) mem_new (up_at _ _ _) (fun j hj => not_new (nK j (List.mem_cons_of_mem _ (by revert hj; exact id))) (by intro h; subst h; revert hj; decide))) (cwI 0 hts gL_law_X4_init rfl rfl rfl (hts (.initialized RX4) (by decide +kernel)) (hts (.methodLink RL 9 yX4_init) (by decide +kernel)) (hts (.instanceMethod yX4_init) (by decide +kernel)) rfl (by decide +kernel) ⟨Nat.le_of_ble_eq_true rfl, Nat.le_of_ble_eq_true rfl⟩) rfl hl.1 [.ref q] rfl (Nat.le_of_ble_eq_true rfl) dL_law_4 ⟨Nat.le_of_ble_eq_true rfl, Nat.le_of_ble_eq_true rfl⟩ (fun u t H locs ht _ hB hS => ?_)
  rw [ht] at hB
  exact kk q u H locs ⟨hB, by rw [eA_N4]; exact hS⟩
set_option maxHeartbeats 4000000 in
set_option maxRecDepth 100000 in
theorem mk_5 {p : Program} {l : Launch} {e : Env} {s : State} {m : MethodId} {below : List Frame} {meth : Method} {c : Code} {b : Nat} {H : Heap} {locs : List Loc} {ls : Array Slot} {Q : State → Prop} {E : Ev} {f : Nat → va_E} (F : LFX p m c s b E) (hH : HFS E s.heap f H locs) (nK : ∀ j, j ∈ [15, 16, 17, 18, 19, 20, 21, 22, 23, 24, 25, 26] → j ∉ eK E) {lv : List (Nat × Value)} (hl : lv_has ls 4 lv)
    (kk : ∀ (q : Nat) (u : Nat → Nat) (H : Heap) (locs : List Loc), HFS (N5 (eNew E 15 q) u) s.heap (lf (va_up f 15 (.inr (6, [.int 0, .null, .null, .null, .null, .int 0, .int 0, .int 0, .int 0, .int 0, .int 0, .int 0, .int 0, .int 0, .int 0, .null, .int 0, .null, .null, .null, .null, .null, .null, .int 0]))) (T5 (eNew E 15 q) u)) H locs → W p l e room_1 s m #[Value.ref b] below meth c H locs (12 + 1 + 11) (351 + 24 + 512) Q (F0 m 15 ls [.ref q])) : W p l e room_1 s m #[Value.ref b] below meth c H locs 12 351 Q (F0 m 8 ls []) := by
  obtain ⟨hx, hb, hml, hown, hts⟩ := id F.1
  refine r_new (C := RX5) (T := TX5) (N := 24) (ci := 6) (fs := [.int 0, .null, .null, .null, .null, .int 0, .int 0, .int 0, .int 0, .int 0, .int 0, .int 0, .int 0, .int 0, .int 0, .null, .int 0, .null, .null, .null, .null, .null, .null, .int 0]) F hH 15 (nK 15 (by decide)) inlX5 tyX5 tyX5_ok (hts (.classLink RL 10 RX5) (by decide +kernel)) (hts (.instantiable RX5 24) (by decide +kernel)) (hts (.initialized RX5) (by decide +kernel)) rfl (fun j hj => by rcases (show j = 0 ∨ j = 1 ∨ j = 2 ∨ j = 3 ∨ j = 4 ∨ j = 5 ∨ j = 6 ∨ j = 7 ∨ j = 8 ∨ j = 9 ∨ j = 10 ∨ j = 11 ∨ j = 12 ∨ j = 13 ∨ j = 14 ∨ j = 15 ∨ j = 16 ∨ j = 17 ∨ j = 18 ∨ j = 19 ∨ j = 20 ∨ j = 21 ∨ j = 22 ∨ j = 23 by omega) with rfl | rfl | rfl | rfl | rfl | rfl | rfl | rfl | rfl | rfl | rfl | rfl | rfl | rfl | rfl | rfl | rfl | rfl | rfl | rfl | rfl | rfl | rfl | rfl <;> rfl) (Nat.le_of_ble_eq_true rfl) (Nat.le_of_ble_eq_true rfl) dL_law_8 (fun q H hH => ?_)
  have F1 : LFX p m c s b (eNew E 15 q) := F
  refine lv_dup hx hb dL_law_11 rfl ?_
  refine r_iv (As := []) (b := q) F1 hH (c_X5_init l (eNew E 15 q) (va_up f 15 (.inr (6, [.int 0, .null, .null, .null, .null, .int 0, .int 0, .int 0, .int 0, .int 0, .int 0, .int 0, .int 0, .int 0, .int 0, .null, .int 0, .null, .null, .null, .null, .null, .null, .int 0]))) mem_new (up_at _ _ _) (fun j hj => not_new (nK j (List.mem_cons_of_mem _ (by revert hj; exact id))) (by intro h; subst h; revert hj; decide))) (cwI 0 hts gL_law_X5_init rfl rfl rfl (hts (.initialized RX5) (by decide +kernel)) (hts (.methodLink RL 12 yX5_init) (by decide +kernel)) (hts (.instanceMethod yX5_init) (by decide +kernel)) rfl (by decide +kernel) ⟨Nat.le_of_ble_eq_true rfl, Nat.le_of_ble_eq_true rfl⟩) rfl hl.1 [.ref q] rfl (Nat.le_of_ble_eq_true rfl) dL_law_12 ⟨Nat.le_of_ble_eq_true rfl, Nat.le_of_ble_eq_true rfl⟩ (fun u t H locs ht _ hB hS => ?_)
  rw [ht] at hB
  exact kk q u H locs ⟨hB, by rw [eA_N5]; exact hS⟩
theorem cel_0 {E : Ev} {f : Nat → va_E} {u u2 : Nat → Nat} {cI : ClassId} {z : Nat} (hnb : ∀ i, eNb E i = 0) (hI : eI E = cI) (hZ : eZ E = z) (d1 : eAd E 1 = u 1) (d2 : eAd E 2 = u 2) (d3 : eAd E 3 = u 3) (d4 : eAd E 4 = u 4) (d5 : eAd E 5 = u 5) (d8 : eAd E 8 = u 8) (d6 : eAd E 6 = u 6) (d9 : eAd E 9 = u 9) (d7 : eAd E 7 = u 7) (d10 : eAd E 10 = u 10) (d11 : eAd E 11 = u 11) (d16 : eAd E 16 = u2 16) (d17 : eAd E 17 = u2 17) (d18 : eAd E 18 = u2 18) (d19 : eAd E 19 = u2 19) (d20 : eAd E 20 = u2 20) (d21 : eAd E 21 = u2 21) (d22 : eAd E 22 = u2 22) (d23 : eAd E 23 = u2 23) (d24 : eAd E 24 = u2 24) (d25 : eAd E 25 = u2 25) (d26 : eAd E 26 = u2 26)
    (f0 : f 0 = .inr (5, [.ref (u 1), .ref (u 2), .ref (u 5), .ref (u 6), .ref (u 7), .ref (u 11), .int 0, .int 0])) (f1 : f 1 = .inr (4, [.int 100, .int 200, .int 50, .int 200, .int 120, .int 0])) (f2 : f 2 = .inr (3, [.ref (u 3), .ref (u 4), .int 0])) (f3 : f 3 = .inl (cI, 8, .inl (fun _ => 0))) (f4 : f 4 = .inl (cI, 8, .inl (fun _ => 0))) (f5 : f 5 = .inr (2, [.int 0, .int 0, .ref (u 8)])) (f8 : f 8 = .inr (0, [.int 0, .ref z, .int 0])) (f6 : f 6 = .inr (2, [.int 0, .int 0, .ref (u 9)])) (f9 : f 9 = .inr (0, [.int 0, .ref z, .int 0])) (f7 : f 7 = .inr (2, [.int 0, .int 0, .ref (u 10)])) (f10 : f 10 = .inr (0, [.int 0, .ref z, .int 0])) (f11 : f 11 = .inl (cI, 300, .inl (fun _ => 0))) (f15 : f 15 = .inr (6, [.int 0, .ref (u2 16), .ref (u2 17), .ref (u2 18), .ref (u2 19), .int 100, .int 200, .int 50, .int 200, .int 120, .int 0, .int 0, .int 0, .int 0, .int 0, .ref (u2 20), .int 0, .ref (u2 21), .ref (u2 22), .ref (u2 23), .ref (u2 24), .ref (u2 25), .ref (u2 26), .int 0])) (f16 : f 16 = .inl (cI, 6, .inl (fun _ => 0))) (f17 : f 17 = .inl (cI, 54, .inl (fun _ => 0))) (f18 : f 18 = .inl (cI, 6, .inl (fun _ => 0))) (f19 : f 19 = .inl (cI, 6, .inl (fun _ => 0))) (f20 : f 20 = .inl (cI, 10, .inl (fun _ => 0))) (f21 : f 21 = .inl (cI, 8, .inl (fun _ => 0))) (f22 : f 22 = .inl (cI, 8, .inl (fun _ => 0))) (f23 : f 23 = .inl (cI, 54, .inl (fun _ => 0))) (f24 : f 24 = .inl (cI, 6, .inl (fun _ => 0))) (f25 : f 25 = .inl (cI, 54, .inl (fun _ => 0))) (f26 : f 26 = .inl (cI, 300, .inl (fun _ => 0))) : ∀ k ∈ k0, f k = cel E v0 k := by
  intro k hk
  simp only [k0, List.mem_cons, List.not_mem_nil, or_false] at hk
  rcases hk with rfl | rfl | rfl | rfl | rfl | rfl | rfl | rfl | rfl | rfl | rfl | rfl | rfl | rfl | rfl | rfl | rfl | rfl | rfl | rfl | rfl | rfl | rfl | rfl
  · rw [f0]
    show _ = celq E (v0 0) 0
    rw [cq_kiln, d1, d2, d5, d6, d7, d11]
    rfl
  · rw [f1]
    show _ = celq E (v0 1) 1
    rw [cq_set]
    rfl
  · rw [f2]
    show _ = celq E (v0 2) 2
    rw [cq_sch, d3, d4]
    rfl
  · rw [f3]
    show _ = celq E (v0 3) 3
    rw [cq_th, hI]
    rfl
  · rw [f4]
    show _ = celq E (v0 4) 4
    rw [cq_in, hI]
    rfl
  · rw [f5]
    show _ = celq E (v0 5) (5 + 0)
    rw [cq_ld E _ (i := 0) (by decide), show eAd E (8 + 0) = u 8 from d8]
    rfl
  · rw [f8]
    show _ = celq E (v0 8) (8 + 0)
    rw [cq_li E _ (i := 0) (by decide)]
    unfold eEl
    rw [hnb 0, if_pos rfl, hZ]
    rfl
  · rw [f6]
    show _ = celq E (v0 6) (5 + 1)
    rw [cq_ld E _ (i := 1) (by decide), show eAd E (8 + 1) = u 9 from d9]
    rfl
  · rw [f9]
    show _ = celq E (v0 9) (8 + 1)
    rw [cq_li E _ (i := 1) (by decide)]
    unfold eEl
    rw [hnb 1, if_pos rfl, hZ]
    rfl
  · rw [f7]
    show _ = celq E (v0 7) (5 + 2)
    rw [cq_ld E _ (i := 2) (by decide), show eAd E (8 + 2) = u 10 from d10]
    rfl
  · rw [f10]
    show _ = celq E (v0 10) (8 + 2)
    rw [cq_li E _ (i := 2) (by decide)]
    unfold eEl
    rw [hnb 2, if_pos rfl, hZ]
    rfl
  · rw [f11]
    show _ = celq E (v0 11) 11
    rw [cq_pl, hI]
    rfl
  · rw [f15]
    show _ = celq E (v0 15) 15
    rw [cq_mo, hnb 3, d16, d17, d18, d19, d20, d21, d22, d23, d24, d25, d26]
    rfl
  · rw [f16]
    show _ = (Sum.inl (eI E, 6, .inl (lrow E)) : va_E)
    rw [lrow_00 (hnb 4), hI]
  · rw [f17]
    show _ = celq E (v0 17) 17
    rw [cq_ma E _ (by decide) (by decide), hI]
    rfl
  · rw [f18]
    show _ = celq E (v0 18) 18
    rw [cq_ma E _ (by decide) (by decide), hI]
    rfl
  · rw [f19]
    show _ = celq E (v0 19) 19
    rw [cq_ma E _ (by decide) (by decide), hI]
    rfl
  · rw [f20]
    show _ = celq E (v0 20) 20
    rw [cq_ma E _ (by decide) (by decide), hI]
    rfl
  · rw [f21]
    show _ = celq E (v0 21) 21
    rw [cq_ma E _ (by decide) (by decide), hI]
    rfl
  · rw [f22]
    show _ = celq E (v0 22) 22
    rw [cq_ma E _ (by decide) (by decide), hI]
    rfl
  · rw [f23]
    show _ = celq E (v0 23) 23
    rw [cq_ma E _ (by decide) (by decide), hI]
    rfl
  · rw [f24]
    show _ = celq E (v0 24) 24
    rw [cq_ma E _ (by decide) (by decide), hI]
    rfl
  · rw [f25]
    show _ = celq E (v0 25) 25
    rw [cq_ma E _ (by decide) (by decide), hI]
    rfl
  · rw [f26]
    show _ = celq E (v0 26) 26
    rw [cq_ma E _ (by decide) (by decide), hI]
    rfl

set_option maxHeartbeats 4000000 in
set_option maxRecDepth 100000 in
/-- from 'new Board' to behind 'put': load i has one board more -/
theorem add_one {p : Program} {l : Launch} {e : Env} {s : State} {m : MethodId} {args : Array Value} {below : List Frame} {meth : Method} {c : Code} {H : Heap} {locs : List Loc} {cells slots : Nat} {Q : State → Prop} {pc : Nat} {ls : Array Slot} {E : Ev} {v : Mem} {a0 : Nat} {z x : Int32} {i n L : Nat}
    (F : FX p m c cX4_addBoard 4 s args wsX4_addBoard RX4 E) (hE : EO E) (hX : EX E) (hH : HS E s.heap v H locs) (hi : i < 3) (hn : n = eNb E i) (hn6 : n < 6) (hL3 : 3 ≤ L) (hL9 : L ≤ 9) (hL : ∀ i', i' < 3 → n < eNb E i' → eLn E n = L) (h4 : eNb E 4 ≤ n)
    (hl : lv_has ls 4 [(3, .int z), (0, .ref a0), (1, .int (nI L)), (2, .int x)]) (hcc : cells + 3 ≤ 9) (hss : slots + 22 ≤ 66)
    (d0 : decode cX4_addBoard pc = .ok (.new 57, 3)) (d3 : decode cX4_addBoard (pc + 3) = .ok (.dup, 1)) (d4 : decode cX4_addBoard (pc + 3 + 1) = .ok (.iload_n 1, 1)) (d5 : decode cX4_addBoard (pc + 3 + 1 + 1) = .ok (.iload_n 2, 1)) (d6 : decode cX4_addBoard (pc + 3 + 1 + 1 + 1) = .ok (.invokespecial 59, 3)) (d9 : decode cX4_addBoard (pc + 3 + 1 + 1 + 1 + 3) = .ok (.invokevirtual 62, 3))
    (kk : ∀ (E' : Ev) (H1 : Heap) (locs1 : List Loc), En1 E E' i n L → EO E' → EX E' → HS E' s.heap (vB v i n L x) H1 locs1 → W p l e ({ frames := 6, cells := 9, slots := 66, locals := 140 } : Room) s m args below meth c H1 locs1 (cells + 3) (slots + 22) Q (F0 m (pc + 3 + 1 + 1 + 1 + 3 + 3) ls [])) :
    W p l e ({ frames := 6, cells := 9, slots := 66, locals := 140 } : Room) s m args below meth c H locs cells slots Q (F0 m pc ls [.ref (eAd E (5 + i))]) := by
  obtain ⟨hx, hb, hml, hown, hts⟩ := id F.1
  obtain ⟨fb, fa, fe⟩ := ex_fresh hE hX hi hn hn6
  have inX0 : ∀ w ∈ wsX00, w ∈ wsX4_addBoard := fun w h => List.mem_cons_of_mem _ (List.mem_append_left _ (List.mem_append_left _ (List.mem_append_right _ h)))
  have nab : ba i n ≠ bo i n := ne_ab (by omega) (by omega)
  have hH : HFS E s.heap (cel E v) H locs := hH
  refine r_new (C := RX0) (T := TX0) (N := 3) (ci := 1) (fs := [.null, .int 0, .int 0]) F hH (bo i n) fb inX0 tyX0 tyX0_ok (hts (.classLink RX4 57 RX0) (by decide +kernel)) (hts (.instantiable RX0 3) (by decide +kernel)) (hts (.initialized RX0) (by decide +kernel)) rfl (fun j hj => by rcases (show j = 0 ∨ j = 1 ∨ j = 2 by omega) with rfl | rfl | rfl <;> rfl) (by show cells + 1 ≤ 9; omega) (by show slots + 3 ≤ 66; omega) d0 (fun q H hH => ?_)
  have F : FX p m c cX4_addBoard 4 s args wsX4_addBoard RX4 (eNew E (bo i n) q) := F
  refine lv_dup hx hb d3 rfl ?_
  refine lv_iload_n hx hb d4 rfl (lv_at hl 2 rfl) ?_
  refine lv_iload_n hx hb d5 rfl (lv_at hl 3 rfl) ?_
  have hM := c_X0_init l (eNew E (bo i n) q) _ (bo i n) (ba i n) L x mem_new (not_new fa nab) (up_at (cel E v) (bo i n) (.inr (1, [.null, .int 0, .int 0]))) hL9
  rw [show eAd (eNew E (bo i n) q) (bo i n) = q from up_at _ _ _] at hM
  refine r_iv (As := [.int (nI L), .int x]) (b := q) F hH hM (cwI 2 hts gX4_addBoard_X0_init rfl rfl rfl (hts (.initialized RX0) (by decide +kernel)) (hts (.methodLink RX4 59 yX0_init) (by decide +kernel)) (hts (.instanceMethod yX0_init) (by decide +kernel)) rfl (by decide +kernel) ⟨Nat.le_of_ble_eq_true rfl, Nat.le_of_ble_eq_true rfl⟩) rfl hl.1 [.ref q, .ref (eAd E (5 + i))] rfl (Nat.le_of_ble_eq_true rfl) d6 ⟨by show cells + 1 + 1 ≤ 9; omega, by show slots + 3 + 9 ≤ 66; omega⟩ (fun qa t H locs ht _ hB hS => ?_)
  have hH : HFS (eNew (eNew E (bo i n) q) (ba i n) qa) s.heap (va_up (va_up (va_up (cel E v) (bo i n) (.inr (1, [.null, .int 0, .int 0]))) (bo i n) (.inr (1, [.ref qa, .int (-1000005), .int (-1000005)]))) (ba i n) (.inl (eI E, L, .inl (frow x (fun _ => 0) L)))) H locs := ⟨by rw [ht] at hB; exact hB, hS⟩
  rw [up_up] at hH
  have F : FX p m c cX4_addBoard 4 s args wsX4_addBoard RX4 (eNew (eNew E (bo i n) q) (ba i n) qa) := F
  have adE : ∀ k, k < 100 → eAd (eNew (eNew E (bo i n) q) (ba i n) qa) k = eAd E k := fun k hk => (up_ne _ _ (Ne.symm (ne_al hk))).trans (up_ne _ _ (Ne.symm (ne_bl hk)))
  have adb : eAd (eNew (eNew E (bo i n) q) (ba i n) qa) (bo i n) = q := (up_ne _ _ (Ne.symm nab)).trans (up_at _ _ _)
  have hkb : bo i n ∈ eK (eNew (eNew E (bo i n) q) (ba i n) qa) := mem_old mem_new
  have hkd : 5 + i ∈ eK (eNew (eNew E (bo i n) q) (ba i n) qa) := mem_old (mem_old (hE.1 _ (by omega)))
  have hkl : 8 + i ∈ eK (eNew (eNew E (bo i n) q) (ba i n) qa) := mem_old (mem_old (hE.1 _ (by omega)))
  have f2o : ∀ k, k ≠ ba i n → k ≠ bo i n → va_up (va_up (cel E v) (bo i n) (.inr (1, [.ref qa, .int (-1000005), .int (-1000005)]))) (ba i n) (.inl (eI E, L, .inl (frow x (fun _ => 0) L))) k = cel E v k := fun k h1 h2 => (up_ne _ _ h1).trans (up_ne _ _ h2)
  have hfb : va_up (va_up (cel E v) (bo i n) (.inr (1, [.ref qa, .int (-1000005), .int (-1000005)]))) (ba i n) (.inl (eI E, L, .inl (frow x (fun _ => 0) L))) (bo i n) = .inr (1, [.ref qa, .int (-1000005), .int (-1000005)]) := (up_ne _ _ (Ne.symm nab)).trans (up_at _ _ _)
  have hfd : va_up (va_up (cel E v) (bo i n) (.inr (1, [.ref qa, .int (-1000005), .int (-1000005)]))) (ba i n) (.inl (eI E, L, .inl (frow x (fun _ => 0) L))) (5 + i) = .inr (2, [.int (v (5 + i) 0), .int (v (5 + i) 1), .ref (eAd (eNew (eNew E (bo i n) q) (ba i n) qa) (8 + i))]) := by
    rw [f2o _ (Ne.symm (ne_al (by omega))) (Ne.symm (ne_bl (by omega))), adE (8 + i) (by omega)]
    exact cq_ld E _ hi
  have hfl : va_up (va_up (cel E v) (bo i n) (.inr (1, [.ref qa, .int (-1000005), .int (-1000005)]))) (ba i n) (.inl (eI E, L, .inl (frow x (fun _ => 0) L))) (8 + i) = lsC (v (8 + i) 0) (eEl E i) n := by
    rw [f2o _ (Ne.symm (ne_al (by omega))) (Ne.symm (ne_bl (by omega))), hn]
    exact cq_li E _ hi
  generalize hf2 : va_up (va_up (cel E v) (bo i n) (.inr (1, [.ref qa, .int (-1000005), .int (-1000005)]))) (ba i n) (.inl (eI E, L, .inl (frow x (fun _ => 0) L))) = f2 at hH f2o hfb hfd hfl
  have hfa : f2 (ba i n) = .inl (eI E, L, .inl (frow x (fun _ => 0) L)) := by rw [← hf2]; exact up_at _ _ _
  have hlb : bo i n ≠ 8 + i := ne_bl (by omega)
  by_cases h0 : n = 0
  · have hke : 12 + i ∉ eK (eNew (eNew E (bo i n) q) (ba i n) qa) := not_new (not_new (fe h0) (Ne.symm (ne_bl (by omega)))) (Ne.symm (ne_al (by omega)))
    have hfl0 : f2 (8 + i) = lsC (v (8 + i) 0) (eZ (eNew (eNew E (bo i n) q) (ba i n) qa)) 0 := by
      rw [hfl, h0]
      unfold eEl
      rw [if_pos (by omega)]
      rfl
    have hM2 := c_putA l (eNew (eNew E (bo i n) q) (ba i n) qa) f2 (5 + i) (8 + i) (12 + i) (bo i n) (v (8 + i) 0) (v (5 + i) 0) (v (5 + i) 1) _ hkd hkl hke hkb hlb hfd hfl0 hfb
    rw [adE (5 + i) (by omega), adb] at hM2
    refine r_vv (As := [.ref q]) F hH hM2 (cwV 1 hts gX4_addBoard_X1_put rfl rfl rfl (by decide +kernel) ⟨Nat.le_of_ble_eq_true rfl, Nat.le_of_ble_eq_true rfl⟩) hkd (adE (5 + i) (by omega)) hfd rfl rfl hl.1 [] rfl (Nat.le_of_ble_eq_true rfl) d9 ⟨by show cells + 1 + 1 + 1 ≤ 9; omega, by show slots + 3 + 9 + 10 ≤ 66; omega⟩ (fun qe t H locs ht _ hB hS => ?_)
    have nae : ba i n ≠ 12 + i := ne_al (by omega)
    have nbe : bo i n ≠ 12 + i := ne_bl (by omega)
    have hen : En1 E (E.1, E.2.1, E.2.2.1 ++ [bo i n] ++ [ba i n] ++ [12 + i], va_up (va_up (va_up E.2.2.2.1 (bo i n) q) (ba i n) qa) (12 + i) qe, va_up (eNb E) i (n + 1), va_up (eLn E) n L, E.2.2.2.2.2.2) i n L := ⟨rfl, rfl, rfl, rfl, rfl, rfl, rfl, fun m h1 h2 h3 => (up_ne _ _ h3).trans ((up_ne _ _ h2).trans (up_ne _ _ h1))⟩
    have hKi : ∀ k, k ∈ E.2.2.1 ++ [bo i n] ++ [ba i n] ++ [12 + i] ↔ (k ∈ eK E ∨ k = bo i n ∨ k = ba i n ∨ k = 12 + i) := fun k => by simp [List.mem_append, or_assoc, eK]
    obtain ⟨hE', hX'⟩ := eo_new hi hn hn6 hE hX hen hL3 hL9 hKi
    refine W.widen (k := cells + 3) (n := slots + 22) (by omega) (by omega) ?_
    refine kk _ H locs hen hE' hX' ⟨HF.congr (by rw [ht] at hB; exact hB) (relab hi hn hn6 hE hX hen hL h4 (fun k hk => (hKi k).mp hk) ?_ ?_ ?_ ?_ ?_), hS⟩
    · rw [up_at, h0]
      show lsC _ qe 1 = lsC _ (va_up _ (12 + i) qe (12 + i)) (0 + 1)
      rw [up_at]
    · rw [up_ne _ _ (by omega), up_at]
      show elC E (va_up (fun _ => none) 0 (some q)) = elC E (va_up (eRow E i) n (some (va_up (va_up (va_up E.2.2.2.1 (bo i n) q) (ba i n) qa) (12 + i) qe (bo i n))))
      rw [up_ne _ _ nbe, up_ne _ _ (Ne.symm nab), up_at, h0]
      have e : eRow E i = fun _ => none := by
        funext j
        unfold eRow
        rw [if_neg (by omega)]
      rw [e]
    · rw [up_ne _ _ (ne_al (by omega)), up_ne _ _ nae, hfa]
    · rw [up_ne _ _ hlb, up_ne _ _ nbe, hfb]
      show (Sum.inr (1, [.ref qa, _, _]) : va_E) = Sum.inr (1, [.ref (va_up (va_up (va_up E.2.2.2.1 (bo i n) q) (ba i n) qa) (12 + i) qe (ba i n)), _, _])
      rw [up_ne _ _ nae, up_at]
    · intro k h1 h2 h3 h4
      rw [up_ne _ _ h1, up_ne _ _ h2, f2o k h3 h4]
  · have hke0 := hE.2.2.1 i hi (by omega)
    have hke : 12 + i ∈ eK (eNew (eNew E (bo i n) q) (ba i n) qa) := mem_old (mem_old hke0)
    have nae : ba i n ≠ 12 + i := ne_al (by omega)
    have nbe : bo i n ≠ 12 + i := ne_bl (by omega)
    have hfl1 : f2 (8 + i) = lsC (v (8 + i) 0) (eAd (eNew (eNew E (bo i n) q) (ba i n) qa) (12 + i)) n := by
      rw [hfl, adE (12 + i) (by omega)]
      unfold eEl
      rw [if_neg (by omega)]
    have hfe : f2 (12 + i) = elC (eNew (eNew E (bo i n) q) (ba i n) qa) (eRow E i) := by
      rw [f2o _ (Ne.symm nae) (Ne.symm nbe)]
      exact cq_el E _ hi
    have hM2 := c_putB l (eNew (eNew E (bo i n) q) (ba i n) qa) f2 (5 + i) (8 + i) (12 + i) (bo i n) n (v (8 + i) 0) (v (5 + i) 0) (v (5 + i) 1) _ _ hkd hkl hke hkb hlb (by omega) (by omega) hfd hfl1 hfe hfb
    rw [adE (5 + i) (by omega), adb, adE (12 + i) (by omega)] at hM2
    refine r_vv (As := [.ref q]) F hH hM2 (cwV 1 hts gX4_addBoard_X1_put rfl rfl rfl (by decide +kernel) ⟨Nat.le_of_ble_eq_true rfl, Nat.le_of_ble_eq_true rfl⟩) hkd (adE (5 + i) (by omega)) hfd rfl rfl hl.1 [] rfl (Nat.le_of_ble_eq_true rfl) d9 ⟨by show cells + 1 + 1 + 1 ≤ 9; omega, by show slots + 3 + 9 + 10 ≤ 66; omega⟩ (fun qe t H locs ht _ hB hS => ?_)
    have hen : En1 E (E.1, E.2.1, E.2.2.1 ++ [bo i n] ++ [ba i n], va_up (va_up E.2.2.2.1 (bo i n) q) (ba i n) qa, va_up (eNb E) i (n + 1), va_up (eLn E) n L, E.2.2.2.2.2.2) i n L := ⟨rfl, rfl, rfl, rfl, rfl, rfl, rfl, fun m h1 h2 h3 => (up_ne _ _ h2).trans (up_ne _ _ h1)⟩
    have hKi : ∀ k, k ∈ E.2.2.1 ++ [bo i n] ++ [ba i n] ↔ (k ∈ eK E ∨ k = bo i n ∨ k = ba i n ∨ k = 12 + i) := fun k => by
      constructor
      · intro h
        simp [List.mem_append, or_assoc] at h
        rcases h with h | h | h
        · exact Or.inl h
        · exact Or.inr (Or.inl h)
        · exact Or.inr (Or.inr (Or.inl h))
      · intro h
        simp [List.mem_append, or_assoc]
        rcases h with h | h | h | h
        · exact Or.inl h
        · exact Or.inr (Or.inl h)
        · exact Or.inr (Or.inr h)
        · exact Or.inl (h ▸ hke0)
    obtain ⟨hE', hX'⟩ := eo_new hi hn hn6 hE hX hen hL3 hL9 hKi
    refine W.widen (k := cells + 3) (n := slots + 22) (by omega) (by omega) ?_
    refine kk _ H locs hen hE' hX' ⟨HF.congr (by rw [ht] at hB; exact hB) (relab hi hn hn6 hE hX hen hL h4 (fun k hk => (hKi k).mp hk) ?_ ?_ ?_ ?_ ?_), hS⟩
    · rw [up_at]
      show lsC _ (eAd E (12 + i)) _ = lsC _ (va_up (va_up E.2.2.2.1 (bo i n) q) (ba i n) qa (12 + i)) _
      rw [up_ne _ _ (Ne.symm nae), up_ne _ _ (Ne.symm nbe)]
      rfl
    · rw [up_ne _ _ (by omega), up_at]
      show elC E (va_up (eRow E i) n (some q)) = elC E (va_up (eRow E i) n (some (va_up (va_up E.2.2.2.1 (bo i n) q) (ba i n) qa (bo i n))))
      rw [up_ne _ _ (Ne.symm nab), up_at]
    · rw [up_ne _ _ (ne_al (by omega)), up_ne _ _ nae, hfa]
    · rw [up_ne _ _ hlb, up_ne _ _ nbe, hfb]
      show (Sum.inr (1, [.ref qa, _, _]) : va_E) = Sum.inr (1, [.ref (va_up (va_up E.2.2.2.1 (bo i n) q) (ba i n) qa (ba i n)), _, _])
      rw [up_at]
    · intro k h1 h2 h3 h4
      rw [up_ne _ _ h1, up_ne _ _ h2, f2o k h3 h4]

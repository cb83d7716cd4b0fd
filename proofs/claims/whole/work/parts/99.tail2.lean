set_option maxHeartbeats 4000000 in
set_option maxRecDepth 100000 in
theorem whole_start {p : Program} {e : Env} {s : State} {m : MethodId} {below : List Frame} {meth : Method} {c : Code} (l : Launch) (hflags : l.flags = flags0) {b L : Nat} {xs : Nat → Int32} (hL : L ≤ 2048) (C0 : lw_At p s m meth c b L xs) : W p l e room_1 s m #[Value.ref b] below meth c s.heap [] 0 0 (lw_Z below #[Value.ref b] s) (entryFrame m ([Value.ref b] : List Value).toArray 4) := by
  obtain ⟨D, z, cI, cO, hKS⟩ := ks_0 C0
  obtain ⟨hx, hb, hr, hml, hown, hts0, hX, hbl, hlocks, hgv⟩ := id C0
  have hts : ∀ w ∈ wsL_law, w.before #[Value.ref b] s = true := fun w h => hts0 w (wsL_law_in w h)
  obtain ⟨E0, eE⟩ : ∃ E0 : Ev, E0 = (D, (fun q => s.heap.size ≤ q), [], (fun _ => 0), (fun _ => 0), (fun _ => 3), z, cI, cO) := ⟨_, rfl⟩
  rw [← eE] at hKS
  have hA0 : eA E0 = fun q => s.heap.size ≤ q := by rw [eE]; rfl
  have hK0 : eK E0 = [] := by rw [eE]; rfl
  have hnb0 : ∀ i, eNb E0 i = 0 := fun i => by rw [eE]; rfl
  have hln0 : ∀ j, eLn E0 j = 3 := fun j => by rw [eE]; rfl
  clear eE
  have F0' : LFX p m c s b E0 := ⟨⟨hx, hb, hml, hown, hts⟩, hKS⟩
  have hP0 : HFS E0 s.heap (fun _ => .inr (0, [])) s.heap [] := by
    refine ⟨⟨?_, ?_⟩, va_S.rf⟩
    · rw [hK0]; intro k q h; simp [kw] at h
    · rw [hK0]; exact ⟨fun i j p q h => by simp [kw] at h, fun k q h => by simp [kw] at h⟩
  have hl := lv_entry ([.ref b]) (n := 4) (Nat.le_of_ble_eq_true rfl)
  rw [lg_entry_eq]
  generalize (lg_sl ([.ref b]) ++ List.replicate (4 - (lg_sl ([.ref b])).length) Slot.unset).toArray = ls at hl ⊢
  have hl : lv_has ls 4 [(0, .ref b)] := hl
  refine mk_4 F0' hP0 (fun j _ h => by rw [hK0] at h; cases h) hl (fun q0 u H locs hH => ?_)
  obtain ⟨A4, B4⟩ := eAd_N4 (eNew E0 0 q0) u
  have F1 : LFX p m c s b (N4 (eNew E0 0 q0) u) := F0'
  have hK1 : eK (N4 (eNew E0 0 q0) u) = [0, 1, 2, 3, 4, 5, 8, 6, 9, 7, 10, 11] := by rw [eK_N4, eK_new, hK0]; rfl
  have c1 : eI (N4 (eNew E0 0 q0) u) = eI E0 := by rw [eI_N4, eI_new]
  have c2 : eZ (N4 (eNew E0 0 q0) u) = eZ E0 := by rw [eZ_N4, eZ_new]
  have c3 : ∀ i, eNb (N4 (eNew E0 0 q0) u) i = 0 := fun i => by rw [eNb_N4, eNb_new]; exact hnb0 i
  have c4 : ∀ i, eLn (N4 (eNew E0 0 q0) u) i = 3 := fun i => by rw [eLn_N4, eLn_new]; exact hln0 i
  have c5 : eA (N4 (eNew E0 0 q0) u) = eA E0 := by rw [eA_N4, eA_new]
  have c6 : eAd (N4 (eNew E0 0 q0) u) 0 = q0 := by rw [B4 0 (by decide), eAd_new, up_at]
  have g0 : ∀ k, lf (va_up (fun _ => .inr (0, [])) 0 (.inr (5, [.null, .null, .null, .null, .null, .null, .int 0, .int 0]))) (T4 (eNew E0 0 q0) u) k = lf (fun _ => .inr (0, [])) (T4 E0 u) k ∨ k ∉ k0 := fun k => by
    by_cases h : k ∈ k0
    · refine Or.inl ?_
      simp only [k0, List.mem_cons, List.not_mem_nil, or_false] at h
      rcases h with rfl | rfl | rfl | rfl | rfl | rfl | rfl | rfl | rfl | rfl | rfl | rfl | rfl | rfl | rfl | rfl | rfl | rfl | rfl | rfl | rfl | rfl | rfl | rfl <;> rfl
    · exact Or.inr h
  refine lv_astore_n (lv' := [(1, .ref q0), (0, .ref b)]) hx hb dL_law_7 rfl hl (by decide) rfl (fun ls hl => ?_)
  generalize lf (va_up (fun _ => .inr (0, [])) 0 (.inr (5, [.null, .null, .null, .null, .null, .null, .int 0, .int 0]))) (T4 (eNew E0 0 q0) u) = f1 at hH g0
  generalize N4 (eNew E0 0 q0) u = E1 at *
  refine mk_5 F1 hH (fun j hj h => by rw [hK1] at h; revert j; decide) hl (fun q1 u2 H2 locs2 hH2 => ?_)
  obtain ⟨A5, B5⟩ := eAd_N5 (eNew E1 15 q1) u2
  have F2 : LFX p m c s b (N5 (eNew E1 15 q1) u2) := F1
  have hK2 : eK (N5 (eNew E1 15 q1) u2) = k0 := by rw [eK_N5, eK_new, hK1]; rfl
  have e1 : eI (N5 (eNew E1 15 q1) u2) = eI E0 := by rw [eI_N5, eI_new, c1]
  have e2 : eZ (N5 (eNew E1 15 q1) u2) = eZ E0 := by rw [eZ_N5, eZ_new, c2]
  have e3 : ∀ i, eNb (N5 (eNew E1 15 q1) u2) i = 0 := fun i => by rw [eNb_N5, eNb_new]; exact c3 i
  have e4 : ∀ i, eLn (N5 (eNew E1 15 q1) u2) i = 3 := fun i => by rw [eLn_N5, eLn_new]; exact c4 i
  have e5 : eA (N5 (eNew E1 15 q1) u2) = eA E0 := by rw [eA_N5, eA_new, c5]
  have e6 : eAd (N5 (eNew E1 15 q1) u2) 15 = q1 := by rw [B5 15 (by decide), eAd_new, up_at]
  have e7 : ∀ k, k < 12 → eAd (N5 (eNew E1 15 q1) u2) k = eAd E1 k := fun k hk => by rw [B5 k (by intro h; simp only [List.mem_cons, List.not_mem_nil, or_false] at h; omega), eAd_new, up_ne _ _ (by omega)]
  obtain ⟨a1, a2, a3, a4, a5, a8, a6, a9, a7, a10, a11⟩ := A4
  obtain ⟨b16, b17, b18, b19, b20, b21, b22, b23, b24, b25, b26⟩ := A5
  have fl : ∀ k, k < 12 → k ∈ k0 → lf (va_up f1 15 (.inr (6, [.int 0, .null, .null, .null, .null, .int 0, .int 0, .int 0, .int 0, .int 0, .int 0, .int 0, .int 0, .int 0, .int 0, .null, .int 0, .null, .null, .null, .null, .null, .null, .int 0]))) (T5 (eNew E1 15 q1) u2) k = lf (fun _ => .inr (0, [])) (T4 E0 u) k := fun k hk hk0 => by
    rcases g0 k with h | h
    · rw [← h]
      rcases (show k = 0 ∨ k = 1 ∨ k = 2 ∨ k = 3 ∨ k = 4 ∨ k = 5 ∨ k = 6 ∨ k = 7 ∨ k = 8 ∨ k = 9 ∨ k = 10 ∨ k = 11 by omega) with rfl | rfl | rfl | rfl | rfl | rfl | rfl | rfl | rfl | rfl | rfl | rfl <;> rfl
    · exact absurd hk0 h
  have ei : eI (eNew E1 15 q1) = eI E0 := by rw [eI_new, c1]
  have hHP : HS (N5 (eNew E1 15 q1) u2) s.heap v0 H2 locs2 := by
    refine ⟨HF.congr hH2.1 ?_, hH2.2⟩
    rw [hK2]
    exact cel_0 e3 e1 e2 (by rw [e7 1 (by decide)]; exact a1) (by rw [e7 2 (by decide)]; exact a2) (by rw [e7 3 (by decide)]; exact a3) (by rw [e7 4 (by decide)]; exact a4) (by rw [e7 5 (by decide)]; exact a5) (by rw [e7 8 (by decide)]; exact a8) (by rw [e7 6 (by decide)]; exact a6) (by rw [e7 9 (by decide)]; exact a9) (by rw [e7 7 (by decide)]; exact a7) (by rw [e7 10 (by decide)]; exact a10) (by rw [e7 11 (by decide)]; exact a11) b16 b17 b18 b19 b20 b21 b22 b23 b24 b25 b26 (fl 0 (by decide) (by decide)) (fl 1 (by decide) (by decide)) (fl 2 (by decide) (by decide)) (fl 3 (by decide) (by decide)) (fl 4 (by decide) (by decide)) (fl 5 (by decide) (by decide)) (fl 8 (by decide) (by decide)) (fl 6 (by decide) (by decide)) (fl 9 (by decide) (by decide)) (fl 7 (by decide) (by decide)) (fl 10 (by decide) (by decide)) (fl 11 (by decide) (by decide)) rfl (by show (Sum.inl (eI (eNew E1 15 q1), 6, .inl (fun _ => 0)) : va_E) = _; rw [ei]) (by show (Sum.inl (eI (eNew E1 15 q1), 54, .inl (fun _ => 0)) : va_E) = _; rw [ei]) (by show (Sum.inl (eI (eNew E1 15 q1), 6, .inl (fun _ => 0)) : va_E) = _; rw [ei]) (by show (Sum.inl (eI (eNew E1 15 q1), 6, .inl (fun _ => 0)) : va_E) = _; rw [ei]) (by show (Sum.inl (eI (eNew E1 15 q1), 10, .inl (fun _ => 0)) : va_E) = _; rw [ei]) (by show (Sum.inl (eI (eNew E1 15 q1), 8, .inl (fun _ => 0)) : va_E) = _; rw [ei]) (by show (Sum.inl (eI (eNew E1 15 q1), 8, .inl (fun _ => 0)) : va_E) = _; rw [ei]) (by show (Sum.inl (eI (eNew E1 15 q1), 54, .inl (fun _ => 0)) : va_E) = _; rw [ei]) (by show (Sum.inl (eI (eNew E1 15 q1), 6, .inl (fun _ => 0)) : va_E) = _; rw [ei]) (by show (Sum.inl (eI (eNew E1 15 q1), 54, .inl (fun _ => 0)) : va_E) = _; rw [ei]) (by show (Sum.inl (eI (eNew E1 15 q1), 300, .inl (fun _ => 0)) : va_E) = _; rw [ei])
  refine lv_astore_n (lv' := [(2, .ref q1), (1, .ref q0), (0, .ref b)]) hx hb dL_law_15 rfl hl (by decide) rfl (fun ls hl => ?_)
  refine lv_iconst (v := 0) hx hb dL_law_16 (by decide) ?_
  refine lv_istore_n (lv' := [(3, .int 0), (2, .ref q1), (1, .ref q0), (0, .ref b)]) hx hb dL_law_17 rfl hl (by decide) rfl (fun ls hl => ?_)
  refine W.widen (k := 25 + 9 * 0) (n := 1000 + 66 * 0) (Nat.le_of_ble_eq_true rfl) (Nat.le_of_ble_eq_true rfl) ?_
  exact law_loop hL hr hlocks hX hbl (L + 1) 0 (by omega) (by omega) (N5 (eNew E1 15 q1) u2) 0 v0 H2 locs2 ls F2 (e5.trans hA0) hHP (inv_0 hK2 e3 e4) (by rw [e6, e7 0 (by decide), c6]; exact lv_sub hl [3, 2, 1, 0] rfl)

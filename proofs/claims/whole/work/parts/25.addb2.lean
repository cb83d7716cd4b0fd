def vB3 (v : Mem) (n L : Nat) (x : Int32) : Mem := vB (vB (vB v 0 n L x) 1 n L x) 2 n L x
/-- E' is E with board n of L layers in all three loads -/
def En3 (E E' : Ev) (n L : Nat) : Prop := eD E' = eD E ∧ eA E' = eA E ∧ eZ E' = eZ E ∧ eI E' = eI E ∧ eO E' = eO E ∧ (∀ i, eNb E' i = if i < 3 then n + 1 else eNb E i) ∧ eLn E' = va_up (eLn E) n L ∧ (∀ m, m < 12 → eAd E' m = eAd E m) ∧ (∀ m, 15 ≤ m → m < 100 → eAd E' m = eAd E m)
def ADD (E : Ev) (v : Mem) (a b : Int32) (r : Int32) (u : Ev × Mem) : Prop :=
  (r = -1000003 ∧ u = (E, v) ∧ ¬ (out a 3 9 = 0 ∧ out b 0 2000 = 0)) ∨ (r = -1000004 ∧ u = (E, v) ∧ out a 3 9 = 0 ∧ out b 0 2000 = 0 ∧ ¬ eNb E 0 < 6) ∨
  (∃ L, 3 ≤ L ∧ L ≤ 9 ∧ a = nI L ∧ out a 3 9 = 0 ∧ out b 0 2000 = 0 ∧ eNb E 0 < 6 ∧ r = nI (eNb E 0) ∧ En3 E u.1 (eNb E 0) L ∧ EO u.1 ∧ EX u.1 ∧ u.2 = vB3 v (eNb E 0) L b)
theorem out_39 {a : Int32} (h : out a 3 9 = 0) : ∃ L, 3 ≤ L ∧ L ≤ 9 ∧ a = nI L := by
  obtain ⟨h1, h2⟩ := out_in h
  have e0 : (0 : Int32).toInt = 0 := by decide
  have e3 : (3 : Int32).toInt = 3 := by decide
  have h1' : ¬ a.toInt < 3 := fun h => h1 (Int32.lt_iff_toInt_lt.mpr (by rw [e3]; exact h))
  obtain ⟨L, hL, rfl⟩ := nI_of2 (M := 9) (n := 9) (x := a) (by decide) (fun h => h1' (by have := Int32.lt_iff_toInt_lt.mp h; omega)) h2
  rw [nI_toInt (by omega)] at h1'
  exact ⟨L, by omega, hL, rfl⟩
set_option maxHeartbeats 4000000 in
set_option maxRecDepth 100000 in
theorem c_X4_addBoard (l : Launch) (E : Ev) (hE : EO E) (hX : EX E) (v : Mem) (a b : Int32) (h01 : eNb E 0 = eNb E 1) (h12 : eNb E 1 = eNb E 2) (h4 : eNb E 4 ≤ eNb E 0) : Met l yX4_addBoard wsX4_addBoard ({ frames := 6, cells := 9, slots := 66, locals := 140 } : Room) (va_Pc [.ref (eAd E 0), .int a, .int b] (WD E v)) (va_Qi (ADD E v a b) (fun u t => HP u.1 u.2 t.heap) (eA E)) 9 66 (eA E) := by
  refine RF.of (f := cel E v) (cc := cX4_addBoard) (maxL := 4) (ret := some .int) (own := RX4) (by decide) rfl rfl (Nat.le_of_ble_eq_true rfl) ?_
  intro p e s m below meth c F hr hlk hin ls hl hH
  obtain ⟨hx, hb, hml, hown, hts⟩ := id F.1
  have hl : lv_has ls 4 [(0, .ref (eAd E 0)), (1, .int a), (2, .int b)] := hl
  have hH : HS E s.heap v s.heap [] := hH
  have hnb := hE.2.2.2.2.1 0 (by decide)
  have inX4 : ∀ w ∈ wsX40, w ∈ wsX4_addBoard := fun w h => List.mem_cons_of_mem _ (List.mem_append_left _ (List.mem_append_left _ (List.mem_append_left _ (List.mem_append_right _ h))))
  have bad : ∀ (H : Heap) (locs : List Loc) (ls : Array Slot), HS E s.heap v H locs → lv_has ls 4 [(0, .ref (eAd E 0)), (1, .int a), (2, .int b)] → ¬ (out a 3 9 = 0 ∧ out b 0 2000 = 0) → W p l e ({ frames := 6, cells := 9, slots := 66, locals := 140 } : Room) s m ([.ref (eAd E 0), .int a, .int b] : List Value).toArray below meth c H locs 0 0 (MQ below (va_Qi (ADD E v a b) (fun u t => HP u.1 u.2 t.heap) (eA E)) ([.ref (eAd E 0), .int a, .int b] : List Value).toArray s 9 66 (eA E)) (F0 m 21 ls []) := by
    intro H locs ls hH hl hne
    refine lv_ldc (v := -1000003) hx hb hown (hts (.constant RX4 51 (-1000003)) (by decide +kernel)) dX4_addBoard_21 ?_
    refine W.widen (k := 9) (n := 66) (Nat.zero_le _) (Nat.zero_le _) ?_
    exact W.iret hx hb hr (fun t ht hW => ⟨⟨_, (E, v), rfl, Or.inl ⟨rfl, rfl, hne⟩, (by show HP E v t.heap; rw [ht]; exact hH.1)⟩, hH.2.F ht⟩) hH.2.2.2 dX4_addBoard_23 hlk
  refine lv_iload_n hx hb dX4_addBoard_0 rfl (lv_at hl 1 rfl) ?_
  refine lv_iconst (v := 3) hx hb dX4_addBoard_1 (by decide) ?_
  refine lv_bipush (v := 9) hx hb dX4_addBoard_2 (by decide) ?_
  refine g_si (As := [.int a, .int 3, .int 9]) F hH (c_X4_isOutside l E hE v a 3 9) (va_cwS 3 hts gX4_addBoard_X4_isOutside rfl rfl rfl (by decide +kernel) ⟨Nat.le_of_ble_eq_true rfl, Nat.le_of_ble_eq_true rfl⟩) rfl hl.1 [] rfl (Nat.le_of_ble_eq_true rfl) dX4_addBoard_4 ⟨Nat.zero_le _, Nat.zero_le _⟩ (fun H locs hH => ?_)
  refine lv_if_ne (tgt := 21) hx hb dX4_addBoard_7 (by decide) (fun c1 => bad H locs ls hH hl (fun h => c1 h.1)) (fun c1 => ?_)
  refine lv_iload_n hx hb dX4_addBoard_10 rfl (lv_at hl 2 rfl) ?_
  refine lv_iconst (v := 0) hx hb dX4_addBoard_11 (by decide) ?_
  refine lv_sipush (v := 2000) hx hb dX4_addBoard_12 (by decide) ?_
  refine g_si (As := [.int b, .int 0, .int 2000]) F hH (c_X4_isOutside l E hE v b 0 2000) (va_cwS 3 hts gX4_addBoard_X4_isOutside rfl rfl rfl (by decide +kernel) ⟨Nat.le_of_ble_eq_true rfl, Nat.le_of_ble_eq_true rfl⟩) rfl hl.1 [] rfl (Nat.le_of_ble_eq_true rfl) dX4_addBoard_15 ⟨Nat.zero_le _, Nat.zero_le _⟩ (fun H locs hH => ?_)
  refine lv_if_eq (tgt := 24) hx hb dX4_addBoard_18 (by decide) (fun c2 => ?_) (fun c2 => bad H locs ls hH hl (fun h => c2 h.2))
  refine lv_aload_n hx hb dX4_addBoard_24 rfl (lv_at hl 0 rfl) ?_
  refine g_get (x := .ref (eAd E 5)) F hH inX4 (hE.1 0 (by decide)) (cq_kiln E _) rfl 2 (by decide) (hts (.fieldLink RX4 26 "DryingKiln" "load" "LDryingKiln$Load;") (by decide +kernel)) (fun _ h => h) rfl dX4_addBoard_25 ?_
  refine g_vi (As := []) F hH (c_X1_size l E hE v 0 (by decide)) (cwV 0 hts gX4_addBoard_X1_size rfl rfl rfl (by decide +kernel) ⟨Nat.le_of_ble_eq_true rfl, Nat.le_of_ble_eq_true rfl⟩) (hE.1 5 (by decide)) (cq_ld E _ (i := 0) (by decide)) rfl rfl hl.1 [] rfl (Nat.le_of_ble_eq_true rfl) dX4_addBoard_28 ⟨Nat.zero_le _, Nat.zero_le _⟩ (fun H locs hH => ?_)
  refine lv_istore_n (lv' := [(3, .int (nI (eNb E 0))), (0, .ref (eAd E 0)), (1, .int a), (2, .int b)]) hx hb dX4_addBoard_31 rfl hl (by decide) rfl (fun ls hl => ?_)
  refine lv_iload_n hx hb dX4_addBoard_32 rfl (lv_at hl 0 rfl) ?_
  refine lv_bipush (v := 6) hx hb dX4_addBoard_33 (by decide) ?_
  refine lv_icmp_lt (tgt := 41) hx hb dX4_addBoard_35 (by decide) (fun c3 => ?_) (fun c3 => ?_)
  · have hn6 : eNb E 0 < 6 := (nI_ltI (b := 6) (by omega) (by omega)).mp c3
    obtain ⟨L, hL3, hL9, rfl⟩ := out_39 c1
    refine lv_aload_n hx hb dX4_addBoard_41 rfl (lv_at hl 1 rfl) ?_
    refine g_get (x := .ref (eAd E 5)) F hH inX4 (hE.1 0 (by decide)) (cq_kiln E _) rfl 2 (by decide) (hts (.fieldLink RX4 26 "DryingKiln" "load" "LDryingKiln$Load;") (by decide +kernel)) (fun _ h => h) rfl dX4_addBoard_42 ?_
    refine add_one (i := 0) (n := eNb E 0) (L := L) (x := b) F hE hX hH (by decide) rfl hn6 hL3 hL9 (fun i' hi' h => by rcases (show i' = 0 ∨ i' = 1 ∨ i' = 2 by omega) with rfl | rfl | rfl <;> omega) h4 hl (by decide) (by decide) dX4_addBoard_45 dX4_addBoard_48 dX4_addBoard_49 dX4_addBoard_50 dX4_addBoard_51 dX4_addBoard_54 (fun E1 H locs en1 hE1 hX1 hH => ?_)
    have F1 : FX p m c cX4_addBoard 4 s ([.ref (eAd E 0), .int (nI L), .int b] : List Value).toArray wsX4_addBoard RX4 E1 := ⟨F.1, F.2.same en1.1 en1.2.1 en1.2.2.1 en1.2.2.2.1 en1.2.2.2.2.1⟩
    have nb1 : eNb E1 = va_up (eNb E) 0 (eNb E 0 + 1) := en1.2.2.2.2.2.1
    have ln1 : eLn E1 = va_up (eLn E) (eNb E 0) L := en1.2.2.2.2.2.2.1
    have ad1 := en1.2.2.2.2.2.2.2
    have n11 : eNb E 0 = eNb E1 1 := by rw [nb1, up_ne _ _ (by decide)]; exact h01
    have a10 : eAd E1 0 = eAd E 0 := ad1 0 (Ne.symm (ne_bl (by decide))) (Ne.symm (ne_al (by decide))) (by decide)
    refine lv_aload_n hx hb dX4_addBoard_57 rfl (lv_at hl 1 rfl) ?_
    refine r_get (x := .ref (eAd E1 6)) F1 (f := cel E1 _) hH inX4 (hE1.1 0 (by decide)) a10 (cq_kiln E1 _) rfl 3 (by decide) (hts (.fieldLink RX4 30 "DryingKiln" "planned" "LDryingKiln$Load;") (by decide +kernel)) (fun _ h => h) rfl dX4_addBoard_58 ?_
    refine add_one (i := 1) (n := eNb E 0) (L := L) (x := b) F1 hE1 hX1 hH (by decide) n11 hn6 hL3 hL9 (fun i' hi' h => by rw [ln1, up_at]) (by rw [nb1, up_ne _ _ (by decide)]; exact h4) hl (by decide) (by decide) dX4_addBoard_61 dX4_addBoard_64 dX4_addBoard_65 dX4_addBoard_66 dX4_addBoard_67 dX4_addBoard_70 (fun E2 H locs en2 hE2 hX2 hH => ?_)
    have F2 : FX p m c cX4_addBoard 4 s ([.ref (eAd E 0), .int (nI L), .int b] : List Value).toArray wsX4_addBoard RX4 E2 := ⟨F1.1, F1.2.same en2.1 en2.2.1 en2.2.2.1 en2.2.2.2.1 en2.2.2.2.2.1⟩
    have nb2 : eNb E2 = va_up (eNb E1) 1 (eNb E 0 + 1) := en2.2.2.2.2.2.1
    have ln2 : eLn E2 = va_up (eLn E1) (eNb E 0) L := en2.2.2.2.2.2.2.1
    have ad2 := en2.2.2.2.2.2.2.2
    have n22 : eNb E 0 = eNb E2 2 := by rw [nb2, up_ne _ _ (by decide), nb1, up_ne _ _ (by decide)]; omega
    have a20 : eAd E2 0 = eAd E 0 := (ad2 0 (Ne.symm (ne_bl (by decide))) (Ne.symm (ne_al (by decide))) (by decide)).trans a10
    refine lv_aload_n hx hb dX4_addBoard_73 rfl (lv_at hl 1 rfl) ?_
    refine r_get (x := .ref (eAd E2 7)) F2 (f := cel E2 _) hH inX4 (hE2.1 0 (by decide)) a20 (cq_kiln E2 _) rfl 4 (by decide) (hts (.fieldLink RX4 33 "DryingKiln" "trial" "LDryingKiln$Load;") (by decide +kernel)) (fun _ h => h) rfl dX4_addBoard_74 ?_
    refine add_one (i := 2) (n := eNb E 0) (L := L) (x := b) F2 hE2 hX2 hH (by decide) n22 hn6 hL3 hL9 (fun i' hi' h => by rw [ln2, up_at]) (by rw [nb2, up_ne _ _ (by decide), nb1, up_ne _ _ (by decide)]; exact h4) hl (by decide) (by decide) dX4_addBoard_77 dX4_addBoard_80 dX4_addBoard_81 dX4_addBoard_82 dX4_addBoard_83 dX4_addBoard_86 (fun E3 H locs en3 hE3 hX3 hH => ?_)
    have nb3 : eNb E3 = va_up (eNb E2) 2 (eNb E 0 + 1) := en3.2.2.2.2.2.1
    have ln3 : eLn E3 = va_up (eLn E2) (eNb E 0) L := en3.2.2.2.2.2.2.1
    have ad3 := en3.2.2.2.2.2.2.2
    have hA : eA E3 = eA E := en3.2.1.trans (en2.2.1.trans en1.2.1)
    have hlo : ∀ m, m < 12 → eAd E3 m = eAd E m := fun m hm => (ad3 m (Ne.symm (ne_bl (by omega))) (Ne.symm (ne_al (by omega))) (by omega)).trans ((ad2 m (Ne.symm (ne_bl (by omega))) (Ne.symm (ne_al (by omega))) (by omega)).trans (ad1 m (Ne.symm (ne_bl (by omega))) (Ne.symm (ne_al (by omega))) (by omega)))
    have hmi : ∀ m, 15 ≤ m → m < 100 → eAd E3 m = eAd E m := fun m h1 hm => (ad3 m (Ne.symm (ne_bl (by omega))) (Ne.symm (ne_al (by omega))) (by omega)).trans ((ad2 m (Ne.symm (ne_bl (by omega))) (Ne.symm (ne_al (by omega))) (by omega)).trans (ad1 m (Ne.symm (ne_bl (by omega))) (Ne.symm (ne_al (by omega))) (by omega)))
    have hen : En3 E E3 (eNb E 0) L := by
      refine ⟨en3.1.trans (en2.1.trans en1.1), hA, en3.2.2.1.trans (en2.2.2.1.trans en1.2.2.1), en3.2.2.2.1.trans (en2.2.2.2.1.trans en1.2.2.2.1), en3.2.2.2.2.1.trans (en2.2.2.2.2.1.trans en1.2.2.2.2.1), fun i => ?_, ?_, hlo, hmi⟩
      · rw [nb3, nb2, nb1]
        by_cases i2 : i = 2
        · subst i2; rw [up_at, if_pos (by decide)]
        rw [up_ne _ _ i2]
        by_cases i1 : i = 1
        · subst i1; rw [up_at, if_pos (by decide)]
        rw [up_ne _ _ i1]
        by_cases i0 : i = 0
        · subst i0; rw [up_at, if_pos (by decide)]
        rw [up_ne _ _ i0, if_neg (by omega)]
      · rw [ln3, ln2, ln1, up_up, up_up]
    refine lv_iload_n hx hb dX4_addBoard_89 rfl (lv_at hl 0 rfl) ?_
    have hS : va_S (eA E) s.heap H locs := hA ▸ hH.2
    exact W.iret hx hb hr (fun t ht hW => ⟨⟨_, (E3, vB3 v (eNb E 0) L b), rfl, Or.inr (Or.inr ⟨L, hL3, hL9, rfl, c1, c2, hn6, rfl, hen, hE3, hX3, rfl⟩), (by show HP E3 _ t.heap; rw [ht]; exact hH.1)⟩, hS.F ht⟩) hS.2.2 dX4_addBoard_90 hlk
  · have hn6 : ¬ eNb E 0 < 6 := fun h => c3 (nI_lt (b := 6) h (by omega))
    refine lv_ldc (v := -1000004) hx hb hown (hts (.constant RX4 56 (-1000004)) (by decide +kernel)) dX4_addBoard_38 ?_
    refine W.widen (k := 9) (n := 66) (Nat.zero_le _) (Nat.zero_le _) ?_
    exact W.iret hx hb hr (fun t ht hW => ⟨⟨_, (E, v), rfl, Or.inr (Or.inl ⟨rfl, rfl, c1, c2, hn6⟩), (by show HP E v t.heap; rw [ht]; exact hH.1)⟩, hH.2.F ht⟩) hH.2.2.2 dX4_addBoard_40 hlk
/-! the model's addBoard -/
def eM4 (E : Ev) (n : Nat) : Ev := (E.1, E.2.1, E.2.2.1, E.2.2.2.1, va_up E.2.2.2.2.1 4 (n + 1), E.2.2.2.2.2)
def eM3 (E : Ev) (n : Nat) : Ev := (E.1, E.2.1, E.2.2.1, E.2.2.2.1, va_up (va_up E.2.2.2.2.1 4 (n + 1)) 3 (n + 1), E.2.2.2.2.2)
theorem eM4_4 (E : Ev) (n : Nat) : eNb (eM4 E n) 4 = n + 1 := by
  show va_up E.2.2.2.2.1 4 (n + 1) 4 = n + 1
  exact up_at _ _ _
theorem eM4_o (E : Ev) (n : Nat) {i : Nat} (h : i ≠ 4) : eNb (eM4 E n) i = eNb E i := by
  show va_up E.2.2.2.2.1 4 (n + 1) i = E.2.2.2.2.1 i
  exact up_ne _ _ h
theorem eM3_o (E : Ev) (n : Nat) {i : Nat} (h : i ≠ 3) : eNb (eM3 E n) i = eNb (eM4 E n) i := by
  show va_up (va_up E.2.2.2.2.1 4 (n + 1)) 3 (n + 1) i = va_up E.2.2.2.2.1 4 (n + 1) i
  exact up_ne _ _ h
theorem eM3_3 (E : Ev) (n : Nat) : eNb (eM3 E n) 3 = n + 1 := by
  show va_up (va_up E.2.2.2.2.1 4 (n + 1)) 3 (n + 1) 3 = n + 1
  exact up_at _ _ _
theorem celq_o {E E' : Ev} (hI : eI E' = eI E) (hO : eO E' = eO E) (hZ : eZ E' = eZ E) (had : eAd E' = eAd E) (hln : eLn E' = eLn E) (hnb : ∀ i, i < 3 → eNb E' i = eNb E i) (g : Nat → Int32) {k : Nat} (h15 : k ≠ 15) (h16 : k ≠ 16) : celq E' g k = celq E g k := by
  unfold celq
  rw [hI, hO, had, hln]
  by_cases h : k ≤ 14
  · by_cases h8 : 8 ≤ k
    · by_cases h10 : k ≤ 10
      · have e : eEl E' (k - 8) = eEl E (k - 8) := by
          unfold eEl
          rw [hnb _ (by omega), hZ, had]
        rw [e, hnb _ (by omega)]
        simp only [if_neg (show ¬ k = 0 by omega), if_neg (show ¬ k = 1 by omega), if_neg (show ¬ k = 2 by omega), if_neg (show ¬ k ≤ 4 by omega), if_neg (show ¬ k ≤ 7 by omega), if_pos h10]
      · by_cases h11 : k = 11
        · subst h11; simp
        · have e : eRow E' (k - 12) = eRow E (k - 12) := by
            unfold eRow
            rw [hnb _ (by omega), had]
          rw [e]
          simp only [h15, h16, if_false, if_neg (show ¬ k = 0 by omega), if_neg (show ¬ k = 1 by omega), if_neg (show ¬ k = 2 by omega), if_neg (show ¬ k ≤ 4 by omega), if_neg (show ¬ k ≤ 7 by omega), if_neg h10]
    · have h7 : k ≤ 7 := by omega
      by_cases a0 : k = 0
      · simp [a0]
      by_cases a1 : k = 1
      · simp [a1]
      by_cases a2 : k = 2
      · simp [a2]
      by_cases a4 : k ≤ 4
      · simp [a0, a1, a2, a4]
      · simp [a0, a1, a2, a4, h7]
  · simp only [h15, h16, if_false, if_neg (show ¬ k = 0 by omega), if_neg (show ¬ k = 1 by omega), if_neg (show ¬ k = 2 by omega), if_neg (show ¬ k ≤ 4 by omega), if_neg (show ¬ k ≤ 7 by omega), if_neg (show ¬ k ≤ 10 by omega), if_neg (show ¬ k = 11 by omega), if_neg h]
def mfill (c : Nat → Int32) (n L : Nat) (x : Int32) (t : Nat) : Nat → Int32 := fun q => if 9 * n ≤ q ∧ q < 9 * n + t then x else c q
theorem mfill_0 (c : Nat → Int32) (n L : Nat) (x : Int32) : mfill c n L x 0 = c := by
  funext q
  unfold mfill
  rw [if_neg (by omega)]
theorem mfill_s (c : Nat → Int32) (n L : Nat) (x : Int32) (t : Nat) : upd (mfill c n L x t) (9 * n + t) x = mfill c n L x (t + 1) := by
  funext q
  unfold upd mfill
  by_cases h : q = 9 * n + t
  · subst h
    rw [if_pos rfl, if_pos (by omega)]
  · rw [if_neg h]
    by_cases h2 : 9 * n ≤ q ∧ q < 9 * n + t
    · rw [if_pos h2, if_pos (by omega)]
    · rw [if_neg h2, if_neg (by omega)]
def vM (v : Mem) (n L : Nat) (x : Int32) : Mem := va_up (st (st v 18 n (-1000005)) 19 n (-1000005)) 17 (mfill (v 17) n L x L)
def MADD (E : Ev) (v : Mem) (a b : Int32) (r : Int32) (u : Ev × Mem) : Prop :=
  (r = -1000003 ∧ u = (E, v) ∧ (btw a 3 9 = 0 ∨ btw b 0 2000 = 0)) ∨ (r = -1000004 ∧ u = (E, v) ∧ ¬ btw a 3 9 = 0 ∧ ¬ btw b 0 2000 = 0 ∧ ¬ eNb E 3 < 6) ∨
  (¬ btw a 3 9 = 0 ∧ ¬ btw b 0 2000 = 0 ∧ eNb E 3 < 6 ∧ r = nI (eNb E 3) ∧ u = (eM3 E (eNb E 3), vM v (eNb E 3) (eLn E (eNb E 3)) b))
set_option maxHeartbeats 4000000 in
set_option maxRecDepth 100000 in
theorem c_X5_addBoard (l : Launch) (E : Ev) (hE : EO E) (v : Mem) (a b : Int32) (h34 : eNb E 3 = eNb E 4) (hla : ¬ btw a 3 9 = 0 → ¬ btw b 0 2000 = 0 → eNb E 3 < 6 → a = nI (eLn E (eNb E 3))) : Met l yX5_addBoard wsX5_addBoard ({ frames := 1, cells := 0, slots := 0, locals := 24 } : Room) (va_Pc [.ref (eAd E 15), .int a, .int b] (WD E v)) (va_Qi (MADD E v a b) (fun u t => HP u.1 u.2 t.heap) (eA E)) 0 0 (eA E) := by
  refine RF.of (f := cel E v) (cc := cX5_addBoard) (maxL := 4) (ret := some .int) (own := RX5) (by decide) rfl rfl (Nat.le_of_ble_eq_true rfl) ?_
  intro p e s m below meth c F hr hlk hin ls hl hH
  obtain ⟨hx, hb, hml, hown, hts⟩ := id F.1
  have hl : lv_has ls 4 [(0, .ref (eAd E 15)), (1, .int a), (2, .int b)] := hl
  have hH : HS E s.heap v s.heap [] := hH
  have hnb := hE.2.2.2.2.1 3 (by decide)
  have inX5 : ∀ w ∈ wsX50, w ∈ wsX5_addBoard := fun w h => List.mem_cons_of_mem _ (List.mem_append_right _ h)
  have k15 : 15 ∈ eK E := hE.2.1 15 (by decide) (by decide)
  have k16 : 16 ∈ eK E := hE.2.1 16 (by decide) (by decide)
  have bad : ∀ (H : Heap) (locs : List Loc) (ls : Array Slot), HS E s.heap v H locs → lv_has ls 4 [(0, .ref (eAd E 15)), (1, .int a), (2, .int b)] → (btw a 3 9 = 0 ∨ btw b 0 2000 = 0) → W p l e ({ frames := 1, cells := 0, slots := 0, locals := 24 } : Room) s m ([.ref (eAd E 15), .int a, .int b] : List Value).toArray below meth c H locs 0 0 (MQ below (va_Qi (MADD E v a b) (fun u t => HP u.1 u.2 t.heap) (eA E)) ([.ref (eAd E 15), .int a, .int b] : List Value).toArray s 0 0 (eA E)) (F0 m 21 ls []) := by
    intro H locs ls hH hl hne
    refine lv_ldc (v := -1000003) hx hb hown (hts (.constant RX5 66 (-1000003)) (by decide +kernel)) dX5_addBoard_21 ?_
    exact W.iret hx hb hr (fun t ht hW => ⟨⟨_, (E, v), rfl, Or.inl ⟨rfl, rfl, hne⟩, (by show HP E v t.heap; rw [ht]; exact hH.1)⟩, hH.2.F ht⟩) hH.2.2.2 dX5_addBoard_23 hlk
  refine lv_iload_n hx hb dX5_addBoard_0 rfl (lv_at hl 1 rfl) ?_
  refine lv_iconst (v := 3) hx hb dX5_addBoard_1 (by decide) ?_
  refine lv_bipush (v := 9) hx hb dX5_addBoard_2 (by decide) ?_
  refine g_si (As := [.int a, .int 3, .int 9]) F hH (c_X5_isBetween l E hE v a 3 9) (va_cwS 3 hts gX5_addBoard_X5_isBetween rfl rfl rfl (by decide +kernel) ⟨Nat.le_of_ble_eq_true rfl, Nat.le_of_ble_eq_true rfl⟩) rfl hl.1 [] rfl (Nat.le_of_ble_eq_true rfl) dX5_addBoard_4 ⟨Nat.zero_le _, Nat.zero_le _⟩ (fun H locs hH => ?_)
  refine lv_if_eq (tgt := 21) hx hb dX5_addBoard_7 (by decide) (fun c1 => bad H locs ls hH hl (Or.inl c1)) (fun c1 => ?_)
  refine lv_iload_n hx hb dX5_addBoard_10 rfl (lv_at hl 2 rfl) ?_
  refine lv_iconst (v := 0) hx hb dX5_addBoard_11 (by decide) ?_
  refine lv_sipush (v := 2000) hx hb dX5_addBoard_12 (by decide) ?_
  refine g_si (As := [.int b, .int 0, .int 2000]) F hH (c_X5_isBetween l E hE v b 0 2000) (va_cwS 3 hts gX5_addBoard_X5_isBetween rfl rfl rfl (by decide +kernel) ⟨Nat.le_of_ble_eq_true rfl, Nat.le_of_ble_eq_true rfl⟩) rfl hl.1 [] rfl (Nat.le_of_ble_eq_true rfl) dX5_addBoard_15 ⟨Nat.zero_le _, Nat.zero_le _⟩ (fun H locs hH => ?_)
  refine lv_if_ne (tgt := 24) hx hb dX5_addBoard_18 (by decide) (fun c2 => ?_) (fun c2 => bad H locs ls hH hl (Or.inr c2))
  refine lv_aload_n hx hb dX5_addBoard_24 rfl (lv_at hl 0 rfl) ?_
  refine g_get (x := .int (nI (eNb E 3))) F hH inX5 k15 (cq_mo E _) rfl 0 (by decide) (hts (.fieldLink RX5 59 "DryingKilnModel" "boards" "I") (by decide +kernel)) (fun _ h => h) rfl dX5_addBoard_25 ?_
  refine lv_bipush (v := 6) hx hb dX5_addBoard_28 (by decide) ?_
  refine lv_icmp_ne (tgt := 36) hx hb dX5_addBoard_30 (by decide) (fun c3 => ?_) (fun c3 => ?_)
  · have hn6 : eNb E 3 < 6 := by
      have h9 : ¬ eNb E 3 = 6 := fun h => c3 (by rw [h]; rfl)
      omega
    have hal := hla c1 c2 hn6
    have hln := hE.2.2.2.2.2.1 (eNb E 3) (by omega)
    have eI4 : ∀ k, k ≠ 16 → ∀ g, celq (eM4 E (eNb E 3)) g k = celq E g k := fun k hk g => by
      by_cases h15 : k = 15
      · subst h15
        rw [cq_mo, cq_mo]
        rfl
      · exact celq_o (E := E) (E' := eM4 E (eNb E 3)) rfl rfl rfl rfl rfl (fun i hi => eM4_o E _ (by omega)) g h15 hk
    have hE4 : EO (eM4 E (eNb E 3)) := by
      obtain ⟨e1, e2, e3, e4, e5, e6, e7⟩ := hE
      have nbo : ∀ i, i < 4 → eNb (eM4 E (eNb E 3)) i = eNb E i := fun i hi => eM4_o E _ (by omega)
      refine ⟨e1, e2, fun i hi h => e3 i hi (by rw [← nbo i (by omega)]; exact h), fun i j hi hj => e4 i j hi (by rw [← nbo i (by omega)]; exact hj), fun i hi => by rw [nbo i hi]; exact e5 i hi, e6, ?_⟩
      rw [nbo 3 (by decide), eM4_4]
      omega
    refine lv_aload_n hx hb dX5_addBoard_36 rfl (lv_at hl 0 rfl) ?_
    refine g_get (x := .ref (eAd E 16)) F hH inX5 k15 (cq_mo E _) rfl 1 (by decide) (hts (.fieldLink RX5 7 "DryingKilnModel" "layersOf" "[I") (by decide +kernel)) (fun _ h => h) rfl dX5_addBoard_37 ?_
    refine lv_aload_n hx hb dX5_addBoard_40 rfl (lv_at hl 0 rfl) ?_
    refine g_get (x := .int (nI (eNb E 3))) F hH inX5 k15 (cq_mo E _) rfl 0 (by decide) (hts (.fieldLink RX5 59 "DryingKilnModel" "boards" "I") (by decide +kernel)) (fun _ h => h) rfl dX5_addBoard_41 ?_
    refine lv_iload_n hx hb dX5_addBoard_44 rfl (lv_at hl 1 rfl) ?_
    refine r_iast (g := lrow E) (n := 6) F (f := cel E v) hH k16 rfl rfl (eNb E 3) rfl hn6 (by decide) dX5_addBoard_45 (fun H locs hH => ?_)
    have hH : HS (eM4 E (eNb E 3)) s.heap v H locs := by
      refine ⟨HF.congr (E := eM4 E (eNb E 3)) hH.1 (fun k hk => ?_), hH.2⟩
      show _ = celq (eM4 E (eNb E 3)) (v k) k
      by_cases h16 : k = 16
      · subst h16
        rw [up_at]
        show (Sum.inl (eI E, 6, .inl (upd (lrow E) (eNb E 3) a)) : va_E) = Sum.inl (eI E, 6, .inl (lrow (eM4 E (eNb E 3))))
        have e : lrow (eM4 E (eNb E 3)) = upd (lrow E) (eNb E 3) a := by
          funext j
          unfold lrow upd
          rw [eM4_4]
          by_cases hj : j = eNb E 3
          · subst hj
            rw [if_pos (by omega), if_pos rfl, hal]
            rfl
          · rw [if_neg hj]
            by_cases hj2 : j < eNb E 4
            · rw [if_pos (by omega)]
              exact (if_pos hj2).symm
            · rw [if_neg (by omega)]
              exact (if_neg hj2).symm
        rw [e]
      · rw [up_ne _ _ h16, eI4 k h16]
        rfl
    have F4 : FX p m c cX5_addBoard 4 s ([.ref (eAd E 15), .int a, .int b] : List Value).toArray wsX5_addBoard RX5 (eM4 E (eNb E 3)) := F
    have nbM : eNb (eM4 E (eNb E 3)) 3 = eNb E 3 := eM4_o E _ (by decide)
    generalize hM : eM4 E (eNb E 3) = M at hH F4 hE4 nbM
    have adM : ∀ k, eAd M k = eAd E k := fun k => by rw [← hM]; rfl
    have m15 : 15 ∈ eK M := hE4.2.1 15 (by decide) (by decide)
    have gb : ∀ {H : Heap} {locs : List Loc} {ls : Array Slot} {rest : List Value} {w : Mem} {pc : Nat} {Q : State → Prop}, HS M s.heap w H locs → decode cX5_addBoard pc = .ok (.getfield 59, 3) → W p l e ({ frames := 1, cells := 0, slots := 0, locals := 24 } : Room) s m ([.ref (eAd E 15), .int a, .int b] : List Value).toArray below meth c H locs 0 0 Q (F0 m (pc + 3) ls (.int (nI (eNb E 3)) :: rest)) → W p l e ({ frames := 1, cells := 0, slots := 0, locals := 24 } : Room) s m ([.ref (eAd E 15), .int a, .int b] : List Value).toArray below meth c H locs 0 0 Q (F0 m pc ls (.ref (eAd E 15) :: rest)) := by
      intro H locs ls rest w pc Q hH hd kk
      exact r_get (x := .int (nI (eNb E 3))) F4 (f := cel M w) hH inX5 m15 (adM 15) ((cq_mo M _).trans (by rw [nbM])) rfl 0 (by decide) (hts (.fieldLink RX5 59 "DryingKilnModel" "boards" "I") (by decide +kernel)) (fun _ h => h) rfl hd kk
    have ga : ∀ {H : Heap} {locs : List Loc} {ls : Array Slot} {rest : List Value} {w : Mem} {pc : Nat} {Q : State → Prop} (j idx : Nat) (nm : String) (key : Nat), HS M s.heap w H locs → j < 24 → (TX5 j).2.1 = nm → (TX5 j).2.2.1 = "[I" → (TX5 j).1 = "DryingKilnModel" → (Cond.fieldLink RX5 idx "DryingKilnModel" nm "[I").before ([.ref (eAd E 15), .int a, .int b] : List Value).toArray s = true → (∀ g : Nat → Int32, (match celq M g 15 with | .inr o => o.2[j]? | .inl _ => none) = some (.ref (eAd E key))) → decode cX5_addBoard pc = .ok (.getfield idx, 3) → W p l e ({ frames := 1, cells := 0, slots := 0, locals := 24 } : Room) s m ([.ref (eAd E 15), .int a, .int b] : List Value).toArray below meth c H locs 0 0 Q (F0 m (pc + 3) ls (.ref (eAd E key) :: rest)) → W p l e ({ frames := 1, cells := 0, slots := 0, locals := 24 } : Room) s m ([.ref (eAd E 15), .int a, .int b] : List Value).toArray below meth c H locs 0 0 Q (F0 m pc ls (.ref (eAd E 15) :: rest)) := by
      intro H locs ls rest w pc Q j idx nm key hH hj h1 h2 h3 hlk hv hd kk
      exact r_get (x := .ref (eAd E key)) F4 (f := cel M w) hH inX5 m15 (adM 15) (cq_mo M _) rfl j hj (by rw [h1, h2]; exact hlk) (fun x hx => by rw [h3] at hx; exact hx) (hv (w 15)) hd kk
    refine lv_aload_n hx hb dX5_addBoard_46 rfl (lv_at hl 0 rfl) ?_
    refine ga 3 16 "checkOf" 18 hH (by decide) rfl rfl rfl (hts (.fieldLink RX5 16 "DryingKilnModel" "checkOf" "[I") (by decide +kernel)) (fun g => by rw [cq_mo]; show some (Value.ref (eAd M 18)) = _; rw [adM]) dX5_addBoard_47 ?_
    refine lv_aload_n hx hb dX5_addBoard_50 rfl (lv_at hl 0 rfl) ?_
    refine gb hH dX5_addBoard_51 ?_
    refine lv_ldc (v := -1000005) hx hb hown (hts (.constant RX5 68 (-1000005)) (by decide +kernel)) dX5_addBoard_54 ?_
    rw [show Value.ref (eAd E 18) = Value.ref (eAd M 18) by rw [adM]]
    refine g_iast (n := 6) F4 hH (hE4.2.1 18 (by decide) (by decide)) (fun _ => rfl) (eNb E 3) rfl hn6 (by decide) dX5_addBoard_56 (fun H locs hH => ?_)
    refine lv_aload_n hx hb dX5_addBoard_57 rfl (lv_at hl 0 rfl) ?_
    refine ga 4 19 "airOf" 19 hH (by decide) rfl rfl rfl (hts (.fieldLink RX5 19 "DryingKilnModel" "airOf" "[I") (by decide +kernel)) (fun g => by rw [cq_mo]; show some (Value.ref (eAd M 19)) = _; rw [adM]) dX5_addBoard_58 ?_
    refine lv_aload_n hx hb dX5_addBoard_61 rfl (lv_at hl 0 rfl) ?_
    refine gb hH dX5_addBoard_62 ?_
    refine lv_ldc (v := -1000005) hx hb hown (hts (.constant RX5 68 (-1000005)) (by decide +kernel)) dX5_addBoard_65 ?_
    rw [show Value.ref (eAd E 19) = Value.ref (eAd M 19) by rw [adM]]
    refine g_iast (n := 6) F4 hH (hE4.2.1 19 (by decide) (by decide)) (fun _ => rfl) (eNb E 3) rfl hn6 (by decide) dX5_addBoard_67 (fun H locs hH => ?_)
    refine lv_iconst (v := 0) hx hb dX5_addBoard_68 (by decide) ?_
    refine lv_istore_n (lv' := [(3, .int 0), (0, .ref (eAd E 15)), (1, .int a), (2, .int b)]) hx hb dX5_addBoard_69 rfl hl (by decide) rfl (fun ls hl => ?_)
    have loop : ∀ (q t : Nat), t + q = eLn E (eNb E 3) → ∀ (H : Heap) (locs : List Loc) (ls : Array Slot), HS M s.heap (va_up (st (st v 18 (eNb E 3) (-1000005)) 19 (eNb E 3) (-1000005)) 17 (mfill (v 17) (eNb E 3) (eLn E (eNb E 3)) b t)) H locs → lv_has ls 4 [(0, .ref (eAd E 15)), (1, .int a), (2, .int b), (3, .int (nI t))] → W p l e ({ frames := 1, cells := 0, slots := 0, locals := 24 } : Room) s m ([.ref (eAd E 15), .int a, .int b] : List Value).toArray below meth c H locs 0 0 (MQ below (va_Qi (MADD E v a b) (fun u t => HP u.1 u.2 t.heap) (eA E)) ([.ref (eAd E 15), .int a, .int b] : List Value).toArray s 0 0 (eA E)) (F0 m 70 ls []) := by
      intro q
      induction q with
      | zero =>
        intro t ht H locs ls hH hl
        obtain rfl : eLn E (eNb E 3) = t := by omega
        refine lv_iload_n hx hb dX5_addBoard_70 rfl (lv_at hl 3 rfl) ?_
        refine lv_iload_n hx hb dX5_addBoard_71 rfl (lv_at hl 1 rfl) ?_
        refine lv_icmp_ge (tgt := 96) hx hb dX5_addBoard_72 (by decide) (fun c4 => ?_) (fun c4 => absurd (by rw [hal]; exact nI_le (Nat.le_refl _) (by omega)) c4)
        refine lv_aload_n hx hb dX5_addBoard_96 rfl (lv_at hl 0 rfl) ?_
        refine lv_dup hx hb dX5_addBoard_97 rfl ?_
        refine gb hH dX5_addBoard_98 ?_
        refine lv_iconst (v := 1) hx hb dX5_addBoard_101 (by decide) ?_
        refine lv_iadd hx hb dX5_addBoard_102 ?_
        rw [nI_1 (eNb E 3)]
        refine r_put (ty := .int) (x := .int (nI (eNb E 3 + 1))) F4 (f := cel M _) hH inX5 tyX5 tyX5_ok nmX5 m15 (adM 15) (cq_mo M _) rfl 0 (by decide) (hts (.fieldLink RX5 59 "DryingKilnModel" "boards" "I") (by decide +kernel)) (fun _ h => h) rfl (by decide +kernel) rfl rfl (Nat.le_of_ble_eq_true rfl) dX5_addBoard_103 (fun H locs hH => ?_)
        have hH : HS (eM3 E (eNb E 3)) s.heap (vM v (eNb E 3) (eLn E (eNb E 3)) b) H locs := by
          subst hM
          refine ⟨HF.congr (E := eM3 E (eNb E 3)) hH.1 (fun k hk => ?_), hH.2⟩
          show _ = celq (eM3 E (eNb E 3)) (vM v (eNb E 3) (eLn E (eNb E 3)) b k) k
          by_cases h15 : k = 15
          · subst h15
            rw [up_at, cq_mo]
            rfl
          · rw [up_ne _ _ h15]
            by_cases h16 : k = 16
            · subst h16
              rfl
            · show celq (eM4 E (eNb E 3)) _ k = _
              exact (celq_o (E := eM4 E (eNb E 3)) (E' := eM3 E (eNb E 3)) rfl rfl rfl rfl rfl (fun i hi => eM3_o E _ (by omega)) _ h15 h16).symm
        have F3 : FX p m c cX5_addBoard 4 s ([.ref (eAd E 15), .int a, .int b] : List Value).toArray wsX5_addBoard RX5 (eM3 E (eNb E 3)) := F
        refine lv_aload_n hx hb dX5_addBoard_106 rfl (lv_at hl 0 rfl) ?_
        refine r_get (x := .int (nI (eNb E 3 + 1))) F3 (f := cel (eM3 E (eNb E 3)) _) hH inX5 k15 rfl (cq_mo _ _) rfl 0 (by decide) (hts (.fieldLink RX5 59 "DryingKilnModel" "boards" "I") (by decide +kernel)) (fun _ h => h) rfl dX5_addBoard_107 ?_
        refine lv_iconst (v := 1) hx hb dX5_addBoard_110 (by decide) ?_
        refine lv_isub hx hb dX5_addBoard_111 ?_
        rw [nI_pred (eNb E 3)]
        exact W.iret hx hb hr (fun t ht hW => ⟨⟨_, (eM3 E (eNb E 3), vM v (eNb E 3) (eLn E (eNb E 3)) b), rfl, Or.inr (Or.inr ⟨c1, c2, hn6, rfl, rfl⟩), (by show HP (eM3 E (eNb E 3)) _ t.heap; rw [ht]; exact hH.1)⟩, hH.2.F ht⟩) hH.2.2.2 dX5_addBoard_112 hlk
      | succ q ih =>
        intro t ht H locs ls hH hl
        have htN : t < eLn E (eNb E 3) := by omega
        refine lv_iload_n hx hb dX5_addBoard_70 rfl (lv_at hl 3 rfl) ?_
        refine lv_iload_n hx hb dX5_addBoard_71 rfl (lv_at hl 1 rfl) ?_
        refine lv_icmp_ge (tgt := 96) hx hb dX5_addBoard_72 (by decide) (fun c4 => absurd c4 (by rw [hal]; exact nI_ge htN (by omega))) (fun c4 => ?_)
        refine lv_aload_n hx hb dX5_addBoard_75 rfl (lv_at hl 0 rfl) ?_
        refine ga 2 13 "cells" 17 hH (by decide) rfl rfl rfl (hts (.fieldLink RX5 13 "DryingKilnModel" "cells" "[I") (by decide +kernel)) (fun g => by rw [cq_mo]; show some (Value.ref (eAd M 17)) = _; rw [adM]) dX5_addBoard_76 ?_
        refine lv_bipush (v := 9) hx hb dX5_addBoard_79 (by decide) ?_
        refine lv_aload_n hx hb dX5_addBoard_81 rfl (lv_at hl 0 rfl) ?_
        refine gb hH dX5_addBoard_82 ?_
        refine lv_imul hx hb dX5_addBoard_85 ?_
        rw [nI_9 (eNb E 3)]
        refine lv_iload_n hx hb dX5_addBoard_86 rfl (lv_at hl 3 rfl) ?_
        refine lv_iadd hx hb dX5_addBoard_87 ?_
        rw [nI_add (9 * eNb E 3) t]
        refine lv_iload_n hx hb dX5_addBoard_88 rfl (lv_at hl 2 rfl) ?_
        rw [show Value.ref (eAd E 17) = Value.ref (eAd M 17) by rw [adM]]
        refine g_iast (n := 54) F4 hH (hE4.2.1 17 (by decide) (by decide)) (fun _ => rfl) (9 * eNb E 3 + t) rfl (by omega) (by decide) dX5_addBoard_89 (fun H locs hH => ?_)
        rw [st_up, mfill_s] at hH
        refine lv_iinc (v := nI (t + 1)) (lv' := [(3, .int (nI (t + 1))), (0, .ref (eAd E 15)), (1, .int a), (2, .int b)]) hx hb dX5_addBoard_90 hl (k := 3) rfl (nI_1 _) (by decide) rfl (fun ls hl => ?_)
        refine lv_goto (tgt := 70) hx hb dX5_addBoard_93 (by decide) ?_
        exact ih (t + 1) (by omega) _ _ ls hH (lv_sub hl [1, 2, 3, 0] rfl)
    exact loop (eLn E (eNb E 3)) 0 (Nat.zero_add _) _ _ ls (by rw [mfill_0, show va_up (st (st v 18 (eNb E 3) (-1000005)) 19 (eNb E 3) (-1000005)) 17 (v 17) = st (st v 18 (eNb E 3) (-1000005)) 19 (eNb E 3) (-1000005) from up_self _ 17]; exact hH) (lv_sub hl [1, 2, 3, 0] rfl)
  · have hn6 : ¬ eNb E 3 < 6 := by
      have h9 : eNb E 3 = 6 := (nI_eq (b := 6) (by omega) (by omega)).mp c3
      omega
    refine lv_ldc (v := -1000004) hx hb hown (hts (.constant RX5 67 (-1000004)) (by decide +kernel)) dX5_addBoard_33 ?_
    exact W.iret hx hb hr (fun t ht hW => ⟨⟨_, (E, v), rfl, Or.inr (Or.inl ⟨rfl, rfl, c1, c2, hn6⟩), (by show HP E v t.heap; rw [ht]; exact hH.1)⟩, hH.2.F ht⟩) hH.2.2.2 dX5_addBoard_35 hlk

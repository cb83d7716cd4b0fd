/-! lists that grow: ArrayList.add with room, and the first of all; Arrays.fill; a board's constructor -/
abbrev lsC (mc : Int32) (e n : Nat) : va_E := .inr (0, [.int mc, .ref e, .int (nI n)])
abbrev elC (E : Ev) (g : Nat → Option Nat) : va_E := .inl (eO E, 10, .inr (.inr (.inr (.inr g))))
def frow (x : Int32) (g : Nat → Int32) (t : Nat) : Nat → Int32 := fun j => if j < t then x else g j
theorem frow_0 (x : Int32) (g : Nat → Int32) : frow x g 0 = g := by
  funext j
  simp [frow]
theorem frow_s (x : Int32) (g : Nat → Int32) (t : Nat) : upd (frow x g t) t x = frow x g (t + 1) := by
  funext j
  unfold upd frow
  by_cases h : j = t
  · subst h
    rw [if_pos rfl, if_pos (by omega)]
  · rw [if_neg h]
    by_cases h2 : j < t
    · rw [if_pos h2, if_pos (by omega)]
    · rw [if_neg h2, if_neg (by omega)]
set_option maxHeartbeats 4000000 in
set_option maxRecDepth 100000 in
theorem c_fill (l : Launch) (E : Ev) (f : Nat → va_E) (k n : Nat) (g : Nat → Int32) (x : Int32) (hk : k ∈ eK E) (hf : f k = .inl (eI E, n, .inl g)) (hn : n < 1000) : Met l yJ7_fill_53178 wsJ7_fill_53178 ({ frames := 0, cells := 0, slots := 0, locals := 0 } : Room) (va_Pc [.ref (eAd E k), .int x] (WF E f)) (va_Qv (fun (_ : Unit) => True) (fun _ t => HF E (va_up f k (.inl (eI E, n, .inl (frow x g n)))) t.heap) (eA E)) 0 0 (eA E) := by
  refine RF.of (cc := cJ7_fill_53178) (maxL := 4) (ret := none) (own := RJ7) (by decide) rfl rfl (Nat.le_of_ble_eq_true rfl) ?_
  intro p e s m below meth c F hr hlk hin ls hl hH
  obtain ⟨hx, hb, hml, hown, hts⟩ := id F.1
  have hl : lv_has ls 4 [(0, .ref (eAd E k)), (1, .int x)] := hl
  refine lv_iconst (v := 0) hx hb dJ7_fill_53178_0 (by decide) ?_
  refine lv_istore_n (lv' := [(2, .int 0), (0, .ref (eAd E k)), (1, .int x)]) hx hb dJ7_fill_53178_1 rfl hl (by decide) rfl (fun ls hl => ?_)
  refine lv_aload_n hx hb dJ7_fill_53178_2 rfl (lv_at hl 1 rfl) ?_
  refine r_alenI F hH hk rfl hf dJ7_fill_53178_3 ?_
  refine lv_istore_n (lv' := [(3, .int (nI n)), (2, .int 0), (0, .ref (eAd E k)), (1, .int x)]) hx hb dJ7_fill_53178_4 rfl hl (by decide) rfl (fun ls hl => ?_)
  have loop : ∀ (q t : Nat), t + q = n → ∀ (H : Heap) (locs : List Loc) (ls : Array Slot), HFS E s.heap (va_up f k (.inl (eI E, n, .inl (frow x g t)))) H locs → lv_has ls 4 [(0, .ref (eAd E k)), (1, .int x), (2, .int (nI t)), (3, .int (nI n))] → W p l e ({ frames := 0, cells := 0, slots := 0, locals := 0 } : Room) s m ([.ref (eAd E k), .int x] : List Value).toArray below meth c H locs 0 0 (MQ below (va_Qv (fun (_ : Unit) => True) (fun _ t => HF E (va_up f k (.inl (eI E, n, .inl (frow x g n)))) t.heap) (eA E)) ([.ref (eAd E k), .int x] : List Value).toArray s 0 0 (eA E)) (F0 m 5 ls []) := by
    intro q
    induction q with
    | zero =>
      intro t ht H locs ls hH hl
      obtain rfl : n = t := by omega
      refine lv_iload_n hx hb dJ7_fill_53178_5 rfl (lv_at hl 2 rfl) ?_
      refine lv_iload_n hx hb dJ7_fill_53178_6 rfl (lv_at hl 3 rfl) ?_
      refine lv_icmp_ge (tgt := 20) hx hb dJ7_fill_53178_7 (by decide) (fun c1 => ?_) (fun c1 => ?_)
      · exact W.vret hx hb hr (fun t ht hW => ⟨⟨(), rfl, trivial, (by show HF E _ t.heap; rw [ht]; exact hH.1)⟩, hH.2.F ht⟩) hH.2.2.2 dJ7_fill_53178_20 hlk
      · exact absurd (nI_le (Nat.le_refl _) (by omega)) c1
    | succ q ih =>
      intro t ht H locs ls hH hl
      have htN : t < n := by omega
      refine lv_iload_n hx hb dJ7_fill_53178_5 rfl (lv_at hl 2 rfl) ?_
      refine lv_iload_n hx hb dJ7_fill_53178_6 rfl (lv_at hl 3 rfl) ?_
      refine lv_icmp_ge (tgt := 20) hx hb dJ7_fill_53178_7 (by decide) (fun c1 => ?_) (fun c1 => ?_)
      · exact absurd c1 (nI_ge htN (by omega))
      · refine lv_aload_n hx hb dJ7_fill_53178_10 rfl (lv_at hl 0 rfl) ?_
        refine lv_iload_n hx hb dJ7_fill_53178_11 rfl (lv_at hl 2 rfl) ?_
        refine lv_iload_n hx hb dJ7_fill_53178_12 rfl (lv_at hl 1 rfl) ?_
        refine r_iast F hH hk rfl (up_at _ _ _) t rfl htN (by omega) dJ7_fill_53178_13 (fun H locs hH => ?_)
        rw [up_up, frow_s] at hH
        refine lv_iinc (v := nI (t + 1)) (lv' := [(2, .int (nI (t + 1))), (0, .ref (eAd E k)), (1, .int x), (3, .int (nI n))]) hx hb dJ7_fill_53178_14 hl (k := 2) rfl (nI_1 _) (by decide) rfl (fun ls hl => ?_)
        refine lv_goto (tgt := 5) hx hb dJ7_fill_53178_17 (by decide) ?_
        exact ih (t + 1) (by omega) _ _ ls hH (lv_sub hl [1, 2, 0, 3] rfl)
  exact loop n 0 (Nat.zero_add _) _ _ ls (by rw [frow_0, ← hf, up_self]; exact hH) (lv_sub hl [2, 3, 1, 0] rfl)
set_option maxHeartbeats 4000000 in
set_option maxRecDepth 100000 in
theorem c_X0_init (l : Launch) (E : Ev) (f : Nat → va_E) (kb ka n : Nat) (x : Int32) (hkb : kb ∈ eK E) (hka : ka ∉ eK E) (hf : f kb = .inr (1, [.null, .int 0, .int 0])) (hn : n ≤ 9) : Met l yX0_init wsX0_init ({ frames := 1, cells := 1, slots := 9, locals := 24 } : Room) (va_Pc [.ref (eAd E kb), .int (nI n), .int x] (WF E f)) (va_Qv (fun (_ : Nat) => True) (fun q t => HF (eNew E ka q) (va_up (va_up f kb (.inr (1, [.ref q, .int (-1000005), .int (-1000005)]))) ka (.inl (eI E, n, .inl (frow x (fun _ => 0) n)))) t.heap) (eA E)) 1 9 (eA E) := by
  have hne : kb ≠ ka := fun h => hka (h ▸ hkb)
  refine RF.of (cc := cX0_init) (maxL := 3) (ret := none) (own := RX0) (by decide) rfl rfl (Nat.le_of_ble_eq_true rfl) ?_
  intro p e s m below meth c F hr hlk hin ls hl hH
  obtain ⟨hx, hb, hml, hown, hts⟩ := id F.1
  have hl : lv_has ls 3 [(0, .ref (eAd E kb)), (1, .int (nI n)), (2, .int x)] := hl
  have inX0 : ∀ w ∈ wsX00, w ∈ wsX0_init := fun w h => List.mem_cons_of_mem _ (List.mem_append_right _ h)
  refine lv_aload_n hx hb dX0_init_0 rfl (lv_at hl 0 rfl) ?_
  refine W.objInit hx hb hown (hts (.methodLink RX0 3 objectInit) (by decide +kernel)) (hts (.instanceMethod objectInit) (by decide +kernel)) (hts (.code objectInit ⟨#[0xb1]⟩ 1 none) (by decide +kernel)) rfl (by rw [hml]; exact hl.1) rfl dX0_init_1 (Nat.le_of_ble_eq_true rfl) (Nat.le_of_ble_eq_true rfl) ?_
  refine W.eq (g2 := F0 m 4 ls []) rfl ?_
  refine lv_aload_n hx hb dX0_init_4 rfl (lv_at hl 0 rfl) ?_
  refine lv_ldc (v := -1000005) hx hb hown (hts (.constant RX0 9 (-1000005)) (by decide +kernel)) dX0_init_5 ?_
  refine r_put (ty := .int) (x := .int (-1000005)) F hH inX0 tyX0 tyX0_ok nmX0 hkb rfl hf rfl 1 (by decide) (hts (.fieldLink RX0 10 "DryingKiln$Board" "checkedAt" "I") (by decide +kernel)) (fun _ h => h) rfl (by decide +kernel) rfl rfl (Nat.le_of_ble_eq_true rfl) dX0_init_7 (fun H locs hH => ?_)
  refine lv_aload_n hx hb dX0_init_10 rfl (lv_at hl 0 rfl) ?_
  refine lv_ldc (v := -1000005) hx hb hown (hts (.constant RX0 9 (-1000005)) (by decide +kernel)) dX0_init_11 ?_
  refine r_put (ty := .int) (x := .int (-1000005)) F hH inX0 tyX0 tyX0_ok nmX0 hkb rfl (up_at _ _ _) rfl 2 (by decide) (hts (.fieldLink RX0 16 "DryingKiln$Board" "air" "I") (by decide +kernel)) (fun _ h => h) rfl (by decide +kernel) rfl rfl (Nat.le_of_ble_eq_true rfl) dX0_init_13 (fun H locs hH => ?_)
  rw [up_up] at hH
  have hH : HFS E s.heap (va_up f kb (.inr (1, [.null, .int (-1000005), .int (-1000005)]))) H locs := hH
  refine lv_aload_n hx hb dX0_init_16 rfl (lv_at hl 0 rfl) ?_
  refine lv_iload_n hx hb dX0_init_17 rfl (lv_at hl 1 rfl) ?_
  refine r_newa F hH ka hka (hts (.arrayClass .int) (by decide +kernel)) n rfl (by omega) (Nat.le_of_ble_eq_true rfl) (by show 0 + n ≤ 9; omega) dX0_init_18 (fun q H hH => ?_)
  have F : FX p m c cX0_init 3 s ([.ref (eAd E kb), .int (nI n), .int x] : List Value).toArray wsX0_init RX0 (eNew E ka q) := F
  have ha : eAd (eNew E ka q) kb = eAd E kb := up_ne _ _ hne
  refine r_putF (ty := .array .int) (x := .ref q) F hH hin inX0 tyX0 tyX0_ok nmX0 (mem_old hkb) ha ((up_ne _ _ hne).trans (up_at _ _ _)) rfl 0 (by decide) (hts (.fieldLink RX0 19 "DryingKiln$Board" "moisture" "[I") (by decide +kernel)) (fun _ h => h) rfl rfl (by decide +kernel) rfl rfl (Nat.le_of_ble_eq_true rfl) dX0_init_20 (fun H locs hH => ?_)
  have hH : HFS (eNew E ka q) s.heap (va_up (va_up (va_up f kb (.inr (1, [.null, .int (-1000005), .int (-1000005)]))) ka (.inl (eI E, n, .inl (fun _ => 0)))) kb (.inr (1, [.ref q, .int (-1000005), .int (-1000005)]))) H locs := hH
  refine lv_aload_n hx hb dX0_init_23 rfl (lv_at hl 0 rfl) ?_
  refine r_get (x := .ref q) F hH inX0 (mem_old hkb) ha (up_at _ _ _) rfl 0 (by decide) (hts (.fieldLink RX0 19 "DryingKiln$Board" "moisture" "[I") (by decide +kernel)) (fun _ h => h) rfl dX0_init_24 ?_
  refine lv_iload_n hx hb dX0_init_27 rfl (lv_at hl 2 rfl) ?_
  have hqa : eAd (eNew E ka q) ka = q := up_at _ _ _
  have hfa := c_fill l (eNew E ka q) (va_up (va_up (va_up f kb (.inr (1, [.null, .int (-1000005), .int (-1000005)]))) ka (.inl (eI E, n, .inl (fun _ => 0)))) kb (.inr (1, [.ref q, .int (-1000005), .int (-1000005)]))) ka n (fun _ => 0) x mem_new ((up_ne _ _ (Ne.symm hne)).trans (up_at _ _ _)) (by omega)
  rw [hqa] at hfa
  refine r_sv (As := [.ref q, .int x]) F hH hfa (va_cwS 2 hts gX0_init_J7_fill_53178 rfl rfl rfl (by decide +kernel) ⟨Nat.le_of_ble_eq_true rfl, Nat.le_of_ble_eq_true rfl⟩) rfl hl.1 [] rfl (Nat.le_of_ble_eq_true rfl) dX0_init_28 ⟨Nat.le_of_ble_eq_true rfl, by show 0 + n + 0 ≤ 9; omega⟩ (fun u t H locs ht _ hB hS => ?_)
  refine W.widen (k := 1) (n := 9) (Nat.le_of_ble_eq_true rfl) (by show 0 + n + 0 ≤ 9; omega) ?_
  refine W.vret hx hb hr (fun t2 ht2 hW => ⟨⟨q, rfl, trivial, ?_⟩, hS.F ht2⟩) hS.2.2 dX0_init_31 hlk
  show HF (eNew E ka q) _ t2.heap
  rw [ht2, ← ht]
  refine HF.congr hB (fun k hk => ?_)
  by_cases h1 : k = ka
  · subst h1
    rw [up_at, up_at]
    rfl
  · rw [up_ne _ _ h1, up_ne _ _ h1]
    by_cases h2 : k = kb
    · subst h2
      rw [up_at, up_at]
    · rw [up_ne _ _ h2, up_ne _ _ h1, up_ne _ _ h2, up_ne _ _ h2]
set_option maxHeartbeats 4000000 in
set_option maxRecDepth 100000 in
/-- ArrayList.grow(1) of an empty list -/
theorem c_grow1 (l : Launch) (E : Ev) (f : Nat → va_E) (kl ke : Nat) (mc : Int32) (hkl : kl ∈ eK E) (hke : ke ∉ eK E) (hf : f kl = lsC mc (eZ E) 0) : Met l yJx4a65c_grow_92f84 wsJx4a65c_grow_92f84 ({ frames := 1, cells := 1, slots := 10, locals := 24 } : Room) (va_Pc [.ref (eAd E kl), .int (nI 1)] (WF E f)) (va_Qr (fun (_ : Unit) => True) (fun _ q t => HF (eNew E ke q) (va_up (va_up f ke (elC E (fun _ => none))) kl (lsC mc q 0)) t.heap) (eA E)) 1 10 (eA E) := by
  have hne : kl ≠ ke := fun h => hke (h ▸ hkl)
  refine RF.of (cc := cJx4a65c_grow_92f84) (maxL := 4) (ret := some (.array (.object "java/lang/Object"))) (own := RJx4a65c) (by decide) rfl rfl (Nat.le_of_ble_eq_true rfl) ?_
  intro p e s m below meth c F hr hlk hin ls hl hH
  obtain ⟨hx, hb, hml, hown, hts⟩ := id F.1
  have hl : lv_has ls 4 [(0, .ref (eAd E kl)), (1, .int (nI 1))] := hl
  have inJ : ∀ w ∈ wsJx4a65c0, w ∈ wsJx4a65c_grow_92f84 := fun w h => List.mem_cons_of_mem _ (List.mem_append_right _ h)
  refine lv_aload_n hx hb dJx4a65c_grow_92f84_0 rfl (lv_at hl 0 rfl) ?_
  refine r_get (x := .ref (eZ E)) F hH inJ hkl rfl hf rfl 1 (by decide) (hts (.fieldLink RJx4a65c 9 "java/util/ArrayList" "elementData" "[Ljava/lang/Object;") (by decide +kernel)) (fun _ h => h) rfl dJx4a65c_grow_92f84_1 ?_
  refine va_tlen (v := nI 0) hx hb F.2.2.2.2.2 hH.2 rfl dJx4a65c_grow_92f84_4 ?_
  refine lv_istore_n (lv' := [(2, .int (nI 0)), (0, .ref (eAd E kl)), (1, .int (nI 1))]) hx hb dJx4a65c_grow_92f84_5 rfl hl (by decide) rfl (fun ls hl => ?_)
  refine lv_iload_n hx hb dJx4a65c_grow_92f84_6 rfl (lv_at hl 0 rfl) ?_
  refine lv_if_gt (tgt := 20) hx hb dJx4a65c_grow_92f84_7 (by decide) (fun c1 => absurd c1 (by decide)) (fun c1 => ?_)
  refine lv_aload_n hx hb dJx4a65c_grow_92f84_10 rfl (lv_at hl 1 rfl) ?_
  refine r_get (x := .ref (eZ E)) F hH inJ hkl rfl hf rfl 1 (by decide) (hts (.fieldLink RJx4a65c 9 "java/util/ArrayList" "elementData" "[Ljava/lang/Object;") (by decide +kernel)) (fun _ h => h) rfl dJx4a65c_grow_92f84_11 ?_
  refine va_gets hx hb F.2.2.2.2.1 hH.2 hown (hts (.fieldLink RJx4a65c 39 "java/util/ArrayList" "DEFAULTCAPACITY_EMPTY_ELEMENTDATA" "[Ljava/lang/Object;") (by decide +kernel)) (fun _ h => h) dJx4a65c_grow_92f84_14 ?_
  refine lv_acmp_eq (rx := some (eZ E)) (ry := some (eZ E)) (tgt := 45) hx hb dJx4a65c_grow_92f84_17 (by decide) (fun c2 => ?_) (fun c2 => absurd rfl c2)
  refine lv_aload_n hx hb dJx4a65c_grow_92f84_45 rfl (lv_at hl 1 rfl) ?_
  refine lv_bipush (v := 10) hx hb dJx4a65c_grow_92f84_46 (by decide) ?_
  refine lv_iload_n hx hb dJx4a65c_grow_92f84_48 rfl (lv_at hl 2 rfl) ?_
  refine va_mmax hx hb (by rw [hml]; exact hl.1.symm) hown (hts (.methodLink RJx4a65c 79 Lib.Math.max.name) (by decide +kernel)) (hts (.static Lib.Math.max.name) (by decide +kernel)) (hts (.initialized "java/lang/Math") (by decide +kernel)) (hts (.code Lib.Math.max.name Lib.Math.max.code 2 (some .int)) (by decide +kernel)) (Nat.le_of_ble_eq_true rfl) (Nat.le_of_ble_eq_true rfl) (Nat.zero_le _) (Nat.zero_le _) dJx4a65c_grow_92f84_49 ?_
  refine r_anew F hH ke hke (hts (.classLink RJx4a65c 7 "java/lang/Object") (by decide +kernel)) 10 (by decide) (by decide) (Nat.le_of_ble_eq_true rfl) (Nat.le_of_ble_eq_true rfl) dJx4a65c_grow_92f84_52 (fun q H hH => ?_)
  have F : FX p m c cJx4a65c_grow_92f84 4 s ([.ref (eAd E kl), .int (nI 1)] : List Value).toArray wsJx4a65c_grow_92f84 RJx4a65c (eNew E ke q) := F
  have ha : eAd (eNew E ke q) kl = eAd E kl := up_ne _ _ hne
  refine lv_dup_x1 hx hb dJx4a65c_grow_92f84_55 rfl rfl ?_
  refine r_put (ty := .array (.object "java/lang/Object")) (x := .ref q) F hH inJ tyJx4a65c tyJx4a65c_ok nmJx4a65c (mem_old hkl) ha ((up_ne _ _ hne).trans hf) rfl 1 (by decide) (hts (.fieldLink RJx4a65c 9 "java/util/ArrayList" "elementData" "[Ljava/lang/Object;") (by decide +kernel)) (fun _ h => h) rfl (by decide +kernel) rfl rfl (Nat.le_of_ble_eq_true rfl) dJx4a65c_grow_92f84_56 (fun H locs hH => ?_)
  exact W.aret hx hb hr (Or.inr ⟨_, rfl⟩) (Or.inr ⟨q, rfl⟩) (fun t ht hW => ⟨⟨(), q, rfl, trivial, (by show HF (eNew E ke q) _ t.heap; rw [ht]; exact hH.1)⟩, hH.2.F ht⟩) hH.2.2.2 dJx4a65c_grow_92f84_59 hlk
set_option maxHeartbeats 4000000 in
set_option maxRecDepth 100000 in
theorem c_grow0 (l : Launch) (E : Ev) (f : Nat → va_E) (kl ke : Nat) (mc : Int32) (hkl : kl ∈ eK E) (hke : ke ∉ eK E) (hf : f kl = lsC mc (eZ E) 0) : Met l yJx4a65c_grow_d5877 wsJx4a65c_grow_d5877 ({ frames := 2, cells := 1, slots := 10, locals := 47 } : Room) (va_Pc [.ref (eAd E kl)] (WF E f)) (va_Qr (fun (_ : Unit) => True) (fun _ q t => HF (eNew E ke q) (va_up (va_up f ke (elC E (fun _ => none))) kl (lsC mc q 0)) t.heap) (eA E)) 1 10 (eA E) := by
  refine RF.of (cc := cJx4a65c_grow_d5877) (maxL := 1) (ret := some (.array (.object "java/lang/Object"))) (own := RJx4a65c) (by decide) rfl rfl (Nat.le_of_ble_eq_true rfl) ?_
  intro p e s m below meth c F hr hlk hin ls hl hH
  obtain ⟨hx, hb, hml, hown, hts⟩ := id F.1
  have hl : lv_has ls 1 [(0, .ref (eAd E kl))] := hl
  have inJ : ∀ w ∈ wsJx4a65c0, w ∈ wsJx4a65c_grow_d5877 := fun w h => List.mem_cons_of_mem _ (List.mem_append_right _ h)
  refine lv_aload_n hx hb dJx4a65c_grow_d5877_0 rfl (lv_at hl 0 rfl) ?_
  refine lv_aload_n hx hb dJx4a65c_grow_d5877_1 rfl (lv_at hl 0 rfl) ?_
  refine r_get (x := .int (nI 0)) F hH inJ hkl rfl hf rfl 2 (by decide) (hts (.fieldLink RJx4a65c 48 "java/util/ArrayList" "size" "I") (by decide +kernel)) (fun _ h => h) rfl dJx4a65c_grow_d5877_2 ?_
  refine lv_iconst (v := 1) hx hb dJx4a65c_grow_d5877_5 (by decide) ?_
  refine lv_iadd hx hb dJx4a65c_grow_d5877_6 ?_
  rw [nI_1 0]
  refine r_vr (As := [.int (nI 1)]) F hH (c_grow1 l E f kl ke mc hkl hke hf) (cwV 1 hts gJx4a65c_grow_d5877_Jx4a65c_grow_92f84 rfl rfl rfl (by decide +kernel) ⟨Nat.le_of_ble_eq_true rfl, Nat.le_of_ble_eq_true rfl⟩) hkl rfl hf rfl rfl hl.1 [] rfl (Nat.le_of_ble_eq_true rfl) dJx4a65c_grow_d5877_7 ⟨Nat.le_of_ble_eq_true rfl, Nat.le_of_ble_eq_true rfl⟩ (fun u q t H locs ht _ hB hS => ?_)
  refine W.aret hx hb hr (Or.inr ⟨_, rfl⟩) (Or.inr ⟨q, rfl⟩) (fun t2 ht2 hW => ⟨⟨(), q, rfl, trivial, ?_⟩, hS.F ht2⟩) hS.2.2 dJx4a65c_grow_d5877_10 hlk
  show HF (eNew E ke q) _ t2.heap
  rw [ht2, ← ht]
  exact hB
set_option maxHeartbeats 4000000 in
set_option maxRecDepth 100000 in
/-- add(x, elementData, size): the first of all -/
theorem c_addA (l : Launch) (E : Ev) (f : Nat → va_E) (kl ke kb : Nat) (mc : Int32) (fs : List Value) (hkl : kl ∈ eK E) (hke : ke ∉ eK E) (hkb : kb ∈ eK E) (hf : f kl = lsC mc (eZ E) 0) (hfb : f kb = .inr (1, fs)) : Met l yJx4a65c_add_72be8 wsJx4a65c_add_72be8 ({ frames := 3, cells := 1, slots := 10, locals := 67 } : Room) (va_Pc [.ref (eAd E kl), .ref (eAd E kb), .ref (eZ E), .int (nI 0)] (WF E f)) (va_Qv (fun (_ : Nat) => True) (fun q t => HF (eNew E ke q) (va_up (va_up f ke (elC E (va_up (fun _ => none) 0 (some (eAd E kb))))) kl (lsC mc q 1)) t.heap) (eA E)) 1 10 (eA E) := by
  have hne : kl ≠ ke := fun h => hke (h ▸ hkl)
  have hneb : kb ≠ ke := fun h => hke (h ▸ hkb)
  have hlb : kb ≠ kl := fun h => by
    rw [h, hf] at hfb
    exact absurd (show (0 : Nat) = 1 from congrArg Prod.fst (Sum.inr.inj hfb)) (by decide)
  refine RF.of (cc := cJx4a65c_add_72be8) (maxL := 4) (ret := none) (own := RJx4a65c) (by decide) rfl rfl (Nat.le_of_ble_eq_true rfl) ?_
  intro p e s m below meth c F hr hlk hin ls hl hH
  obtain ⟨hx, hb, hml, hown, hts⟩ := id F.1
  have hl : lv_has ls 4 [(0, .ref (eAd E kl)), (1, .ref (eAd E kb)), (2, .ref (eZ E)), (3, .int (nI 0))] := hl
  have inJ : ∀ w ∈ wsJx4a65c0, w ∈ wsJx4a65c_add_72be8 := fun w h => List.mem_cons_of_mem _ (List.mem_append_right _ h)
  refine lv_iload_n hx hb dJx4a65c_add_72be8_0 rfl (lv_at hl 3 rfl) ?_
  refine lv_aload_n hx hb dJx4a65c_add_72be8_1 rfl (lv_at hl 2 rfl) ?_
  refine va_tlen (v := nI 0) hx hb F.2.2.2.2.2 hH.2 rfl dJx4a65c_add_72be8_2 ?_
  refine lv_icmp_ne (tgt := 11) hx hb dJx4a65c_add_72be8_3 (by decide) (fun c1 => absurd rfl c1) (fun c1 => ?_)
  refine lv_aload_n hx hb dJx4a65c_add_72be8_6 rfl (lv_at hl 0 rfl) ?_
  refine r_vr (As := []) F hH (c_grow0 l E f kl ke mc hkl hke hf) (cwV 0 hts gJx4a65c_add_72be8_Jx4a65c_grow_d5877 rfl rfl rfl (by decide +kernel) ⟨Nat.le_of_ble_eq_true rfl, Nat.le_of_ble_eq_true rfl⟩) hkl rfl hf rfl rfl hl.1 [] rfl (Nat.le_of_ble_eq_true rfl) dJx4a65c_add_72be8_7 ⟨Nat.le_of_ble_eq_true rfl, Nat.le_of_ble_eq_true rfl⟩ (fun u q t H locs ht _ hB hS => ?_)
  have hH : HFS (eNew E ke q) s.heap (va_up (va_up f ke (elC E (fun _ => none))) kl (lsC mc q 0)) H locs := ⟨by rw [ht] at hB; exact hB, hS⟩
  have F : FX p m c cJx4a65c_add_72be8 4 s ([.ref (eAd E kl), .ref (eAd E kb), .ref (eZ E), .int (nI 0)] : List Value).toArray wsJx4a65c_add_72be8 RJx4a65c (eNew E ke q) := F
  have ha : eAd (eNew E ke q) kl = eAd E kl := up_ne _ _ hne
  have hab : eAd (eNew E ke q) kb = eAd E kb := up_ne _ _ hneb
  refine lv_astore_n (lv' := [(2, .ref q), (0, .ref (eAd E kl)), (1, .ref (eAd E kb)), (3, .int (nI 0))]) hx hb dJx4a65c_add_72be8_10 rfl hl (by decide) rfl (fun ls hl => ?_)
  refine lv_aload_n hx hb dJx4a65c_add_72be8_11 rfl (lv_at hl 0 rfl) ?_
  refine lv_iload_n hx hb dJx4a65c_add_72be8_12 rfl (lv_at hl 3 rfl) ?_
  refine lv_aload_n hx hb dJx4a65c_add_72be8_13 rfl (lv_at hl 2 rfl) ?_
  refine r_aast F hH mem_new (up_at _ _ _) ((up_ne _ _ (Ne.symm hne)).trans (up_at _ _ _)) (mem_old hkb) hab ((up_ne _ _ hlb).trans ((up_ne _ _ hneb).trans hfb)) 0 rfl (by decide) (by decide) dJx4a65c_add_72be8_14 (fun H locs hH => ?_)
  refine lv_aload_n hx hb dJx4a65c_add_72be8_15 rfl (lv_at hl 1 rfl) ?_
  refine lv_iload_n hx hb dJx4a65c_add_72be8_16 rfl (lv_at hl 3 rfl) ?_
  refine lv_iconst (v := 1) hx hb dJx4a65c_add_72be8_17 (by decide) ?_
  refine lv_iadd hx hb dJx4a65c_add_72be8_18 ?_
  rw [nI_1 0]
  refine r_put (ty := .int) (x := .int (nI 1)) F hH inJ tyJx4a65c tyJx4a65c_ok nmJx4a65c (mem_old hkl) ha ((up_ne _ _ hne).trans (up_at _ _ _)) rfl 2 (by decide) (hts (.fieldLink RJx4a65c 48 "java/util/ArrayList" "size" "I") (by decide +kernel)) (fun _ h => h) rfl (by decide +kernel) rfl rfl (Nat.le_of_ble_eq_true rfl) dJx4a65c_add_72be8_19 (fun H locs hH => ?_)
  refine W.vret hx hb hr (fun t2 ht2 hW => ⟨⟨q, rfl, trivial, ?_⟩, hH.2.F ht2⟩) hH.2.2.2 dJx4a65c_add_72be8_22 hlk
  show HF (eNew E ke q) _ t2.heap
  rw [ht2]
  refine HF.congr hH.1 (fun k hk => ?_)
  by_cases h1 : k = kl
  · subst h1
    rw [up_at, up_at]
    rfl
  · rw [up_ne _ _ h1, up_ne _ _ h1]
    by_cases h2 : k = ke
    · subst h2
      rw [up_at, up_at]
      rfl
    · rw [up_ne _ _ h2, up_ne _ _ h1, up_ne _ _ h2, up_ne _ _ h2]
set_option maxHeartbeats 4000000 in
set_option maxRecDepth 100000 in
/-- add(x, elementData, size): there is room -/
theorem c_addB (l : Launch) (E : Ev) (f : Nat → va_E) (kl ke kb n : Nat) (mc : Int32) (g : Nat → Option Nat) (fs : List Value) (hkl : kl ∈ eK E) (hke : ke ∈ eK E) (hkb : kb ∈ eK E) (hn : n < 10) (hf : f kl = lsC mc (eAd E ke) n) (hfe : f ke = elC E g) (hfb : f kb = .inr (1, fs)) : Met l yJx4a65c_add_72be8 wsJx4a65c_add_72be8 ({ frames := 3, cells := 1, slots := 10, locals := 67 } : Room) (va_Pc [.ref (eAd E kl), .ref (eAd E kb), .ref (eAd E ke), .int (nI n)] (WF E f)) (va_Qv (fun (_ : Unit) => True) (fun _ t => HF E (va_up (va_up f ke (elC E (va_up g n (some (eAd E kb))))) kl (lsC mc (eAd E ke) (n + 1))) t.heap) (eA E)) 1 10 (eA E) := by
  have hne : kl ≠ ke := fun h => by
    rw [h, hfe] at hf
    cases hf
  refine RF.of (cc := cJx4a65c_add_72be8) (maxL := 4) (ret := none) (own := RJx4a65c) (by decide) rfl rfl (Nat.le_of_ble_eq_true rfl) ?_
  intro p e s m below meth c F hr hlk hin ls hl hH
  obtain ⟨hx, hb, hml, hown, hts⟩ := id F.1
  have hl : lv_has ls 4 [(0, .ref (eAd E kl)), (1, .ref (eAd E kb)), (2, .ref (eAd E ke)), (3, .int (nI n))] := hl
  have inJ : ∀ w ∈ wsJx4a65c0, w ∈ wsJx4a65c_add_72be8 := fun w h => List.mem_cons_of_mem _ (List.mem_append_right _ h)
  refine lv_iload_n hx hb dJx4a65c_add_72be8_0 rfl (lv_at hl 3 rfl) ?_
  refine lv_aload_n hx hb dJx4a65c_add_72be8_1 rfl (lv_at hl 2 rfl) ?_
  refine r_alenO F hH hke rfl hfe dJx4a65c_add_72be8_2 ?_
  refine lv_icmp_ne (tgt := 11) hx hb dJx4a65c_add_72be8_3 (by decide) (fun c1 => ?_) (fun c1 => absurd ((nI_eq (by omega) (by omega)).mp c1) (by omega))
  refine lv_aload_n hx hb dJx4a65c_add_72be8_11 rfl (lv_at hl 2 rfl) ?_
  refine lv_iload_n hx hb dJx4a65c_add_72be8_12 rfl (lv_at hl 3 rfl) ?_
  refine lv_aload_n hx hb dJx4a65c_add_72be8_13 rfl (lv_at hl 1 rfl) ?_
  refine r_aast F hH hke rfl hfe hkb rfl hfb n rfl hn (by decide) dJx4a65c_add_72be8_14 (fun H locs hH => ?_)
  refine lv_aload_n hx hb dJx4a65c_add_72be8_15 rfl (lv_at hl 0 rfl) ?_
  refine lv_iload_n hx hb dJx4a65c_add_72be8_16 rfl (lv_at hl 3 rfl) ?_
  refine lv_iconst (v := 1) hx hb dJx4a65c_add_72be8_17 (by decide) ?_
  refine lv_iadd hx hb dJx4a65c_add_72be8_18 ?_
  rw [nI_1 n]
  refine r_put (ty := .int) (x := .int (nI (n + 1))) F hH inJ tyJx4a65c tyJx4a65c_ok nmJx4a65c hkl rfl ((up_ne _ _ hne).trans hf) rfl 2 (by decide) (hts (.fieldLink RJx4a65c 48 "java/util/ArrayList" "size" "I") (by decide +kernel)) (fun _ h => h) rfl (by decide +kernel) rfl rfl (Nat.le_of_ble_eq_true rfl) dJx4a65c_add_72be8_19 (fun H locs hH => ?_)
  refine W.widen (k := 1) (n := 10) (Nat.le_of_ble_eq_true rfl) (Nat.le_of_ble_eq_true rfl) ?_
  exact W.vret hx hb hr (fun t2 ht2 hW => ⟨⟨(), rfl, trivial, (by show HF E _ t2.heap; rw [ht2]; exact hH.1)⟩, hH.2.F ht2⟩) hH.2.2.2 dJx4a65c_add_72be8_22 hlk
set_option maxHeartbeats 4000000 in
set_option maxRecDepth 100000 in
/-- ArrayList.add: the first of all -/
theorem c_add1A (l : Launch) (E : Ev) (f : Nat → va_E) (kl ke kb : Nat) (mc : Int32) (fs : List Value) (hkl : kl ∈ eK E) (hke : ke ∉ eK E) (hkb : kb ∈ eK E) (hlb : kb ≠ kl) (hf : f kl = lsC mc (eZ E) 0) (hfb : f kb = .inr (1, fs)) : Met l yJx4a65c_add_9ea2d wsJx4a65c_add_9ea2d ({ frames := 4, cells := 1, slots := 10, locals := 90 } : Room) (va_Pc [.ref (eAd E kl), .ref (eAd E kb)] (WF E f)) (va_Qi (fun _ (_ : Nat) => True) (fun q t => HF (eNew E ke q) (va_up (va_up f ke (elC E (va_up (fun _ => none) 0 (some (eAd E kb))))) kl (lsC (mc + 1) q 1)) t.heap) (eA E)) 1 10 (eA E) := by
  refine RF.of (cc := cJx4a65c_add_9ea2d) (maxL := 2) (ret := some .boolean) (own := RJx4a65c) (by decide) rfl rfl (Nat.le_of_ble_eq_true rfl) ?_
  intro p e s m below meth c F hr hlk hin ls hl hH
  obtain ⟨hx, hb, hml, hown, hts⟩ := id F.1
  have hl : lv_has ls 2 [(0, .ref (eAd E kl)), (1, .ref (eAd E kb))] := hl
  have inJ : ∀ w ∈ wsJx4a65c0, w ∈ wsJx4a65c_add_9ea2d := fun w h => List.mem_cons_of_mem _ (List.mem_append_right _ h)
  refine lv_aload_n hx hb dJx4a65c_add_9ea2d_0 rfl (lv_at hl 0 rfl) ?_
  refine lv_dup hx hb dJx4a65c_add_9ea2d_1 rfl ?_
  refine r_get (x := .int mc) F hH inJ hkl rfl hf rfl 0 (by decide) (hts (.fieldLink RJx4a65c 63 "java/util/ArrayList" "modCount" "I") (by decide +kernel)) (fun x9 h9 => u_same (hts (.sameField "java/util/ArrayList" "java/util/AbstractList" "modCount" "I") (by decide +kernel)) x9 h9) rfl dJx4a65c_add_9ea2d_2 ?_
  refine lv_iconst (v := 1) hx hb dJx4a65c_add_9ea2d_5 (by decide) ?_
  refine lv_iadd hx hb dJx4a65c_add_9ea2d_6 ?_
  refine r_put (ty := .int) (x := .int (mc + 1)) F hH inJ tyJx4a65c tyJx4a65c_ok nmJx4a65c hkl rfl hf rfl 0 (by decide) (hts (.fieldLink RJx4a65c 63 "java/util/ArrayList" "modCount" "I") (by decide +kernel)) (fun x9 h9 => u_same (hts (.sameField "java/util/ArrayList" "java/util/AbstractList" "modCount" "I") (by decide +kernel)) x9 h9) rfl (by decide +kernel) rfl rfl (Nat.le_of_ble_eq_true rfl) dJx4a65c_add_9ea2d_7 (fun H locs hH => ?_)
  have hH : HFS E s.heap (va_up f kl (lsC (mc + 1) (eZ E) 0)) H locs := hH
  refine lv_aload_n hx hb dJx4a65c_add_9ea2d_10 rfl (lv_at hl 0 rfl) ?_
  refine lv_aload_n hx hb dJx4a65c_add_9ea2d_11 rfl (lv_at hl 1 rfl) ?_
  refine lv_aload_n hx hb dJx4a65c_add_9ea2d_12 rfl (lv_at hl 0 rfl) ?_
  refine r_get (x := .ref (eZ E)) F hH inJ hkl rfl (up_at _ _ _) rfl 1 (by decide) (hts (.fieldLink RJx4a65c 9 "java/util/ArrayList" "elementData" "[Ljava/lang/Object;") (by decide +kernel)) (fun _ h => h) rfl dJx4a65c_add_9ea2d_13 ?_
  refine lv_aload_n hx hb dJx4a65c_add_9ea2d_16 rfl (lv_at hl 0 rfl) ?_
  refine r_get (x := .int (nI 0)) F hH inJ hkl rfl (up_at _ _ _) rfl 2 (by decide) (hts (.fieldLink RJx4a65c 48 "java/util/ArrayList" "size" "I") (by decide +kernel)) (fun _ h => h) rfl dJx4a65c_add_9ea2d_17 ?_
  refine r_vv (As := [.ref (eAd E kb), .ref (eZ E), .int (nI 0)]) F hH (c_addA l E _ kl ke kb (mc + 1) fs hkl hke hkb (up_at _ _ _) ((up_ne _ _ hlb).trans hfb)) (cwV 3 hts gJx4a65c_add_9ea2d_Jx4a65c_add_72be8 rfl rfl rfl (by decide +kernel) ⟨Nat.le_of_ble_eq_true rfl, Nat.le_of_ble_eq_true rfl⟩) hkl rfl (up_at _ _ _) rfl rfl hl.1 [] rfl (Nat.le_of_ble_eq_true rfl) dJx4a65c_add_9ea2d_20 ⟨Nat.le_of_ble_eq_true rfl, Nat.le_of_ble_eq_true rfl⟩ (fun q t H locs ht _ hB hS => ?_)
  refine lv_iconst (v := 1) hx hb dJx4a65c_add_9ea2d_23 (by decide) ?_
  refine W.zret hx hb hr rfl (fun t2 ht2 hW => ⟨⟨1, q, rfl, trivial, ?_⟩, hS.F ht2⟩) hS.2.2 dJx4a65c_add_9ea2d_24 hlk
  show HF (eNew E ke q) _ t2.heap
  rw [ht2, ← ht]
  refine HF.congr hB (fun k hk => ?_)
  by_cases h1 : k = kl
  · subst h1
    rw [up_at, up_at]
  · rw [up_ne _ _ h1, up_ne _ _ h1]
    by_cases h2 : k = ke
    · subst h2
      rw [up_at, up_at]
    · rw [up_ne _ _ h2, up_ne _ _ h1, up_ne _ _ h2]
set_option maxHeartbeats 4000000 in
set_option maxRecDepth 100000 in
/-- ArrayList.add: there is room -/
theorem c_add1B (l : Launch) (E : Ev) (f : Nat → va_E) (kl ke kb n : Nat) (mc : Int32) (g : Nat → Option Nat) (fs : List Value) (hkl : kl ∈ eK E) (hke : ke ∈ eK E) (hkb : kb ∈ eK E) (hlb : kb ≠ kl) (hle : ke ≠ kl) (hn : n < 10) (hf : f kl = lsC mc (eAd E ke) n) (hfe : f ke = elC E g) (hfb : f kb = .inr (1, fs)) : Met l yJx4a65c_add_9ea2d wsJx4a65c_add_9ea2d ({ frames := 4, cells := 1, slots := 10, locals := 90 } : Room) (va_Pc [.ref (eAd E kl), .ref (eAd E kb)] (WF E f)) (va_Qi (fun _ (_ : Unit) => True) (fun _ t => HF E (va_up (va_up f ke (elC E (va_up g n (some (eAd E kb))))) kl (lsC (mc + 1) (eAd E ke) (n + 1))) t.heap) (eA E)) 1 10 (eA E) := by
  refine RF.of (cc := cJx4a65c_add_9ea2d) (maxL := 2) (ret := some .boolean) (own := RJx4a65c) (by decide) rfl rfl (Nat.le_of_ble_eq_true rfl) ?_
  intro p e s m below meth c F hr hlk hin ls hl hH
  obtain ⟨hx, hb, hml, hown, hts⟩ := id F.1
  have hl : lv_has ls 2 [(0, .ref (eAd E kl)), (1, .ref (eAd E kb))] := hl
  have inJ : ∀ w ∈ wsJx4a65c0, w ∈ wsJx4a65c_add_9ea2d := fun w h => List.mem_cons_of_mem _ (List.mem_append_right _ h)
  refine lv_aload_n hx hb dJx4a65c_add_9ea2d_0 rfl (lv_at hl 0 rfl) ?_
  refine lv_dup hx hb dJx4a65c_add_9ea2d_1 rfl ?_
  refine r_get (x := .int mc) F hH inJ hkl rfl hf rfl 0 (by decide) (hts (.fieldLink RJx4a65c 63 "java/util/ArrayList" "modCount" "I") (by decide +kernel)) (fun x9 h9 => u_same (hts (.sameField "java/util/ArrayList" "java/util/AbstractList" "modCount" "I") (by decide +kernel)) x9 h9) rfl dJx4a65c_add_9ea2d_2 ?_
  refine lv_iconst (v := 1) hx hb dJx4a65c_add_9ea2d_5 (by decide) ?_
  refine lv_iadd hx hb dJx4a65c_add_9ea2d_6 ?_
  refine r_put (ty := .int) (x := .int (mc + 1)) F hH inJ tyJx4a65c tyJx4a65c_ok nmJx4a65c hkl rfl hf rfl 0 (by decide) (hts (.fieldLink RJx4a65c 63 "java/util/ArrayList" "modCount" "I") (by decide +kernel)) (fun x9 h9 => u_same (hts (.sameField "java/util/ArrayList" "java/util/AbstractList" "modCount" "I") (by decide +kernel)) x9 h9) rfl (by decide +kernel) rfl rfl (Nat.le_of_ble_eq_true rfl) dJx4a65c_add_9ea2d_7 (fun H locs hH => ?_)
  have hH : HFS E s.heap (va_up f kl (lsC (mc + 1) (eAd E ke) n)) H locs := hH
  refine lv_aload_n hx hb dJx4a65c_add_9ea2d_10 rfl (lv_at hl 0 rfl) ?_
  refine lv_aload_n hx hb dJx4a65c_add_9ea2d_11 rfl (lv_at hl 1 rfl) ?_
  refine lv_aload_n hx hb dJx4a65c_add_9ea2d_12 rfl (lv_at hl 0 rfl) ?_
  refine r_get (x := .ref (eAd E ke)) F hH inJ hkl rfl (up_at _ _ _) rfl 1 (by decide) (hts (.fieldLink RJx4a65c 9 "java/util/ArrayList" "elementData" "[Ljava/lang/Object;") (by decide +kernel)) (fun _ h => h) rfl dJx4a65c_add_9ea2d_13 ?_
  refine lv_aload_n hx hb dJx4a65c_add_9ea2d_16 rfl (lv_at hl 0 rfl) ?_
  refine r_get (x := .int (nI n)) F hH inJ hkl rfl (up_at _ _ _) rfl 2 (by decide) (hts (.fieldLink RJx4a65c 48 "java/util/ArrayList" "size" "I") (by decide +kernel)) (fun _ h => h) rfl dJx4a65c_add_9ea2d_17 ?_
  refine r_vv (As := [.ref (eAd E kb), .ref (eAd E ke), .int (nI n)]) F hH (c_addB l E _ kl ke kb n (mc + 1) g fs hkl hke hkb hn (up_at _ _ _) ((up_ne _ _ hle).trans hfe) ((up_ne _ _ hlb).trans hfb)) (cwV 3 hts gJx4a65c_add_9ea2d_Jx4a65c_add_72be8 rfl rfl rfl (by decide +kernel) ⟨Nat.le_of_ble_eq_true rfl, Nat.le_of_ble_eq_true rfl⟩) hkl rfl (up_at _ _ _) rfl rfl hl.1 [] rfl (Nat.le_of_ble_eq_true rfl) dJx4a65c_add_9ea2d_20 ⟨Nat.le_of_ble_eq_true rfl, Nat.le_of_ble_eq_true rfl⟩ (fun u t H locs ht _ hB hS => ?_)
  refine lv_iconst (v := 1) hx hb dJx4a65c_add_9ea2d_23 (by decide) ?_
  refine W.zret hx hb hr rfl (fun t2 ht2 hW => ⟨⟨1, (), rfl, trivial, ?_⟩, hS.F ht2⟩) hS.2.2 dJx4a65c_add_9ea2d_24 hlk
  show HF E _ t2.heap
  rw [ht2, ← ht]
  refine HF.congr hB (fun k hk => ?_)
  by_cases h1 : k = kl
  · subst h1
    rw [up_at, up_at]
  · rw [up_ne _ _ h1, up_ne _ _ h1]
    by_cases h2 : k = ke
    · subst h2
      rw [up_at, up_at]
    · rw [up_ne _ _ h2, up_ne _ _ h1, up_ne _ _ h2]
set_option maxHeartbeats 4000000 in
set_option maxRecDepth 100000 in
/-- Load.put: the first board -/
theorem c_putA (l : Launch) (E : Ev) (f : Nat → va_E) (kd kl ke kb : Nat) (mc x y : Int32) (fs : List Value) (hkd : kd ∈ eK E) (hkl : kl ∈ eK E) (hke : ke ∉ eK E) (hkb : kb ∈ eK E) (hlb : kb ≠ kl) (hfd : f kd = .inr (2, [.int x, .int y, .ref (eAd E kl)])) (hf : f kl = lsC mc (eZ E) 0) (hfb : f kb = .inr (1, fs)) : Met l yX1_put wsX1_put ({ frames := 5, cells := 1, slots := 10, locals := 111 } : Room) (va_Pc [.ref (eAd E kd), .ref (eAd E kb)] (WF E f)) (va_Qv (fun (_ : Nat) => True) (fun q t => HF (eNew E ke q) (va_up (va_up f ke (elC E (va_up (fun _ => none) 0 (some (eAd E kb))))) kl (lsC (mc + 1) q 1)) t.heap) (eA E)) 1 10 (eA E) := by
  refine RF.of (cc := cX1_put) (maxL := 2) (ret := none) (own := RX1) (by decide) rfl rfl (Nat.le_of_ble_eq_true rfl) ?_
  intro p e s m below meth c F hr hlk hin ls hl hH
  obtain ⟨hx, hb, hml, hown, hts⟩ := id F.1
  have hl : lv_has ls 2 [(0, .ref (eAd E kd)), (1, .ref (eAd E kb))] := hl
  have inX1 : ∀ w ∈ wsX10, w ∈ wsX1_put := fun w h => List.mem_cons_of_mem _ (List.mem_append_left _ (List.mem_append_right _ h))
  refine lv_aload_n hx hb dX1_put_0 rfl (lv_at hl 0 rfl) ?_
  refine r_get (x := .ref (eAd E kl)) F hH inX1 hkd rfl hfd rfl 2 (by decide) (hts (.fieldLink RX1 22 "DryingKiln$Load" "boards" "Ljava/util/ArrayList;") (by decide +kernel)) (fun _ h => h) rfl dX1_put_1 ?_
  refine lv_aload_n hx hb dX1_put_4 rfl (lv_at hl 1 rfl) ?_
  refine r_vi (As := [.ref (eAd E kb)]) F hH (c_add1A l E f kl ke kb mc fs hkl hke hkb hlb hf hfb) (cwV 1 hts gX1_put_Jx4a65c_add_9ea2d rfl rfl rfl (by decide +kernel) ⟨Nat.le_of_ble_eq_true rfl, Nat.le_of_ble_eq_true rfl⟩) hkl rfl hf rfl rfl hl.1 [] rfl (Nat.le_of_ble_eq_true rfl) dX1_put_5 ⟨Nat.le_of_ble_eq_true rfl, Nat.le_of_ble_eq_true rfl⟩ (fun r q t H locs ht _ hB hS => ?_)
  refine lv_pop hx hb dX1_put_8 rfl ?_
  exact W.vret hx hb hr (fun t2 ht2 hW => ⟨⟨q, rfl, trivial, (by show HF (eNew E ke q) _ t2.heap; rw [ht2, ← ht]; exact hB)⟩, hS.F ht2⟩) hS.2.2 dX1_put_9 hlk
set_option maxHeartbeats 4000000 in
set_option maxRecDepth 100000 in
/-- Load.put: a further board -/
theorem c_putB (l : Launch) (E : Ev) (f : Nat → va_E) (kd kl ke kb n : Nat) (mc x y : Int32) (g : Nat → Option Nat) (fs : List Value) (hkd : kd ∈ eK E) (hkl : kl ∈ eK E) (hke : ke ∈ eK E) (hkb : kb ∈ eK E) (hlb : kb ≠ kl) (hle : ke ≠ kl) (hn : n < 10) (hfd : f kd = .inr (2, [.int x, .int y, .ref (eAd E kl)])) (hf : f kl = lsC mc (eAd E ke) n) (hfe : f ke = elC E g) (hfb : f kb = .inr (1, fs)) : Met l yX1_put wsX1_put ({ frames := 5, cells := 1, slots := 10, locals := 111 } : Room) (va_Pc [.ref (eAd E kd), .ref (eAd E kb)] (WF E f)) (va_Qv (fun (_ : Unit) => True) (fun _ t => HF E (va_up (va_up f ke (elC E (va_up g n (some (eAd E kb))))) kl (lsC (mc + 1) (eAd E ke) (n + 1))) t.heap) (eA E)) 1 10 (eA E) := by
  refine RF.of (cc := cX1_put) (maxL := 2) (ret := none) (own := RX1) (by decide) rfl rfl (Nat.le_of_ble_eq_true rfl) ?_
  intro p e s m below meth c F hr hlk hin ls hl hH
  obtain ⟨hx, hb, hml, hown, hts⟩ := id F.1
  have hl : lv_has ls 2 [(0, .ref (eAd E kd)), (1, .ref (eAd E kb))] := hl
  have inX1 : ∀ w ∈ wsX10, w ∈ wsX1_put := fun w h => List.mem_cons_of_mem _ (List.mem_append_left _ (List.mem_append_right _ h))
  refine lv_aload_n hx hb dX1_put_0 rfl (lv_at hl 0 rfl) ?_
  refine r_get (x := .ref (eAd E kl)) F hH inX1 hkd rfl hfd rfl 2 (by decide) (hts (.fieldLink RX1 22 "DryingKiln$Load" "boards" "Ljava/util/ArrayList;") (by decide +kernel)) (fun _ h => h) rfl dX1_put_1 ?_
  refine lv_aload_n hx hb dX1_put_4 rfl (lv_at hl 1 rfl) ?_
  refine r_vi (As := [.ref (eAd E kb)]) F hH (c_add1B l E f kl ke kb n mc g fs hkl hke hkb hlb hle hn hf hfe hfb) (cwV 1 hts gX1_put_Jx4a65c_add_9ea2d rfl rfl rfl (by decide +kernel) ⟨Nat.le_of_ble_eq_true rfl, Nat.le_of_ble_eq_true rfl⟩) hkl rfl hf rfl rfl hl.1 [] rfl (Nat.le_of_ble_eq_true rfl) dX1_put_5 ⟨Nat.le_of_ble_eq_true rfl, Nat.le_of_ble_eq_true rfl⟩ (fun r q t H locs ht _ hB hS => ?_)
  refine lv_pop hx hb dX1_put_8 rfl ?_
  exact W.vret hx hb hr (fun t2 ht2 hW => ⟨⟨(), rfl, trivial, (by show HF E _ t2.heap; rw [ht2, ← ht]; exact hB)⟩, hS.F ht2⟩) hS.2.2 dX1_put_9 hlk

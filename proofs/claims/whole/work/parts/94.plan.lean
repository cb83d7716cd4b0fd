/-! plans: class beside model -/
def far (i q : Nat) : Prop := ∀ j, j < 10 → q ≠ bo i j ∧ q ≠ ba i j
theorem far_lo {i q : Nat} (h : q < 100) : far i q := fun _ _ => ⟨Ne.symm (ne_bl h), Ne.symm (ne_al h)⟩
theorem far_ba {i p b : Nat} (h : p ≠ i) (hb : b < 10) : far i (ba p b) := fun _ hj => ⟨ne_ab hb hj, fun e => h (ba_inj hb hj e).1⟩
theorem far_bo {i p b : Nat} (h : p ≠ i) (hb : b < 10) : far i (bo p b) := fun _ hj => ⟨fun e => h (bo_inj hb hj e).1, Ne.symm (ne_ab hj hb)⟩
theorem ldp_far {E : Ev} {i : Nat} (h9 : eNb E i ≤ 9) (a : Int32) (v : Mem) {q : Nat} (hf : far i q) : ∀ t, t ≤ eNb E i → (ldp E i a v t).1 q = v q
  | 0, _ => rfl
  | t + 1, ht => by
    show bdry E i _ _ (ldp E i a v t).1 q = v q
    have hnum : lnum E i (ldp E i a v t).1 t < 10 := by
      unfold lnum
      split <;> omega
    rw [bdry_ne E _ _ (hf _ hnum).1 (hf _ hnum).2, ldp_far h9 a v hf t (by omega)]
theorem ldry_far {E : Ev} {i : Nat} (h9 : eNb E i ≤ 9) (a : Int32) (v : Mem) {q : Nat} (hf : far i q) (h5 : q ≠ 5 + i) : ldry E i a v q = v q := by
  rw [ldry, lcnt_ne _ _ h5, ldp_far h9 a v hf _ (Nat.le_refl _)]
theorem lcp_far {E : Ev} {i o : Nat} (v : Mem) {q : Nat} (hf : far i q) : ∀ t, t ≤ 9 → lcp E i o v t q = v q
  | 0, _ => rfl
  | t + 1, ht => by
    show bcpy E i o t (lcp E i o v t) q = v q
    rw [bcpy, up_ne _ _ (hf t (by omega)).2, lcp_far v hf t (by omega)]
theorem lcpy_far {E : Ev} {i o : Nat} (h9 : eNb E i ≤ 9) (v : Mem) {q : Nat} (hf : far i q) (h5 : q ≠ 5 + i) : lcpy E i o v q = v q := by
  rw [lcpy, st_ne _ _ _ h5, st_ne _ _ _ h5, lcp_far v hf _ h9]
theorem lrs_far {E : Ev} {i : Nat} (v : Mem) {q : Nat} (hf : far i q) : ∀ t, t ≤ 9 → lrs E i v t q = v q
  | 0, _ => rfl
  | t + 1, ht => by
    show brst E i t _ (lrs E i v t) q = v q
    rw [brst, up_ne _ _ (hf t (by omega)).2, lrs_far v hf t (by omega)]
theorem lcp_at {E : Ev} {i o : Nat} (hio : o ≠ i) (v : Mem) {b k : Nat} (hk : k < eLn E b) : ∀ t, t ≤ 9 → b < t → lcp E i o v t (ba i b) k = v (ba o b) k
  | 0, _, h => absurd h (by omega)
  | t + 1, ht, h => by
    show bcpy E i o t (lcp E i o v t) (ba i b) k = v (ba o b) k
    rw [bcpy]
    by_cases e : b = t
    · subst e
      rw [up_at, pk_cpy_in (Nat.zero_le _) (by omega), lcp_far v (far_ba hio (by omega)) b (by omega), Nat.zero_add, Nat.sub_zero]
    · rw [up_ne _ _ (fun q => e (ba_inj (by omega) (by omega) q).2)]
      exact lcp_at hio v hk t (by omega) (by omega)
theorem lcpy_BR {E : Ev} (hE : EO E) {i o : Nat} (hi : i < 3) (hio : o ≠ i) (hn : eNb E i = eNb E 3) {x y : Mem} (h : BR E o x y) : BR E i (lcpy E i o x) y := by
  have hn6 := hE.2.2.2.2.1 3 (by decide)
  intro b hb k hk
  rw [lcpy, st_ne _ _ _ (ne_al (by omega)), st_ne _ _ _ (ne_al (by omega)), lcp_at hio x hk _ (by omega) (by omega)]
  exact h b hb k hk
theorem lcpy_FR {E : Ev} {i o : Nat} {x y : Mem} (h : FR o x y) : FR i (lcpy E i o x) y := by
  refine ⟨?_, ?_⟩
  · rw [lcpy, st_nj _ _ _ (by decide), st_at]
    exact h.1
  · rw [lcpy, st_at]
    exact h.2
theorem lgg_le {E : Ev} {x : Mem} {i : Nat} {a : Int32} (h0 : 0 ≤ a) : ∀ t, lgg E x i t ≤ a ↔ ∀ b, b < t → pstr (x (ba i b)) (eLn E b) ≤ a
  | 0 => ⟨fun _ b hb => absurd hb (by omega), fun _ => h0⟩
  | t + 1 => by
    show imx (lgg E x i t) (pstr (x (ba i t)) (eLn E t)) ≤ a ↔ _
    rw [imx_le, lgg_le h0 t]
    constructor
    · intro h b hb
      by_cases e : b = t
      · subst e; exact h.2
      · exact h.1 b (by omega)
    · intro h
      exact ⟨fun b hb => h b (by omega), h t (by omega)⟩
theorem mis_0 {E : Ev} {y : Mem} : ∀ n t, mis E y n t = 0 ↔ ∀ b, t ≤ b → b < t + n → mstr E y b ≤ y 15 8
  | 0, t => ⟨fun _ b h1 h2 => absurd h2 (by omega), fun _ => rfl⟩
  | n + 1, t => by
    simp only [mis]
    by_cases c : mstr E y t ≤ y 15 8
    · rw [if_pos c, mis_0 n (t + 1)]
      constructor
      · intro h b h1 h2
        by_cases e : b = t
        · subst e; exact c
        · exact h b (by omega) (by omega)
      · intro h b h1 h2
        exact h b (by omega) (by omega)
    · rw [if_neg c]
      constructor
      · intro h
        exact absurd h (by decide)
      · intro h
        exact absurd (h t (Nat.le_refl _) (by omega)) c
theorem strained_eq {E : Ev} (hE : EO E) {i : Nat} (hn : eNb E i = eNb E 3) {x y : Mem} (h : BR E i x y) (h8 : y 15 8 = x 1 3) (h0 : 0 ≤ x 1 3) : mis E y (eNb E 3) 0 = 0 ↔ ¬ x 1 3 < lgg E x i (eNb E i) := by
  rw [mis_0, Int32.not_lt, lgg_le h0, hn]
  constructor
  · intro q b hb
    rw [← str_eq hE h hb, ← h8]
    exact q b (by omega) (by omega)
  · intro q b _ hb
    rw [str_eq hE h (by omega), h8]
    exact q b (by omega)
theorem mph_o (E : Ev) {q : Nat} (h1 : q ≠ 17) (h2 : q ≠ 20) (h3 : q ≠ 19) (h4 : q ≠ 15) : ∀ (n t : Nat) (y : Mem), (mph E n t y).1 q = y q
  | 0, _, y => mrs_ne E y h1 h2 _
  | n + 1, t, y => by
    simp only [mph]
    split
    · show med _ q = y q
      rw [med_ne _ h4, mblm_ne E _ _ h1 h2 h3]
    · rw [mph_o E h1 h2 h3 h4 n (t + 1), mcpy_ne _ _ _ trivial h1, mblm_ne E _ _ h1 h2 h3]
def QR (E : Ev) (x y : Mem) : Prop := BR E 1 x y ∧ SR x y ∧ FR 1 x y
def EN (E : Ev) : Prop := eNb E 0 = eNb E 3 ∧ eNb E 1 = eNb E 3 ∧ eNb E 2 = eNb E 3 ∧ eNb E 4 = eNb E 3
theorem nI_rest {n : Nat} (h : n < 1000) : ¬ nI n = -1000006 := fun q => by
  have e := congrArg Int32.toInt q
  rw [nI_toInt (by omega)] at e
  have e2 : (-1000006 : Int32).toInt = -1000006 := by decide
  omega
theorem try_eq {E : Ev} (hE : EO E) (hN : EN E) : ∀ (n t : Nat) (x y : Mem), t + n ≤ 31 → QR E x y → (∀ q, q < 54 → y 25 q = y 17 q) → ¬ x 1 2 = 0 → 0 ≤ x 1 3 →
    (mph E n t y).2 = (kch E n t x).2 ∧ SR (kch E n t x).1 (mph E n t y).1 ∧ ((kch E n t x).2 = -1000006 → ∃ y0, (mph E n t y).1 = mrst E y0 ∧ QR E (kch E n t x).1 y0) ∧ (¬ (kch E n t x).2 = -1000006 → BR E 2 (kch E n t x).1 (mph E n t y).1 ∧ FR 2 (kch E n t x).1 (mph E n t y).1)
  | 0, t, x, y, _, h, _, _, _ => by
    refine ⟨rfl, ?_, fun _ => ⟨y, rfl, h⟩, fun q => absurd rfl q⟩
    exact h.2.1.mono rfl (fun j _ => by show mrs E y _ 15 j = y 15 j; rw [mrs_ne E y (by decide) (by decide)])
  | n + 1, t, x, y, hb, h, hv, hc, hlim => by
    have hn6 := hE.2.2.2.2.1 3 (by decide)
    obtain ⟨n0, n1, n2, n4⟩ := hN
    have l1 : lcpy E 2 1 x 1 = x 1 := lcpy_lo E x (by decide) (by decide)
    have sl : SR (lcpy E 2 1 x) y := h.2.1.mono l1 (fun _ _ => rfl)
    obtain ⟨d1, d2, d3, -⟩ := dry_eq hE (i := 2) (by decide) n2 (lcpy_BR hE (i := 2) (o := 1) (by decide) (by decide) n2 h.1) sl (lcpy_FR (E := E) (i := 2) (o := 1) h.2.2) (by rw [l1]; exact hc) (nI (10 * t))
    have x1 : ktry E t x 1 = x 1 := ktry_lo E t x (by decide) (by decide)
    have hy : ∀ q, q ≠ 17 → q ≠ 20 → q ≠ 19 → mblm E (nI (10 * t)) y q = y q := fun q h1 h2 h3 => mblm_ne E _ _ h1 h2 h3
    have s1 : SR (ktry E t x) (mblm E (nI (10 * t)) y) := h.2.1.mono x1 (fun j _ => by rw [hy 15 (by decide) (by decide) (by decide)])
    have st1 := strained_eq hE n2 (x := ktry E t x) (y := mblm E (nI (10 * t)) y) d1 s1.2.2.2.1 (by rw [x1]; exact hlim)
    by_cases c : ktry E t x 1 3 < lgg E (ktry E t x) 2 (eNb E 2)
    · have ek : kch E (n + 1) t x = kch E n (t + 1) (ktry E t x) := if_pos c
      have em : mph E (n + 1) t y = mph E n (t + 1) (mcpy (mblm E (nI (10 * t)) y) 25 17 54) := if_neg (fun q => st1.mp q c)
      rw [ek, em]
      have c17 : ∀ q, q < 54 → mcpy (mblm E (nI (10 * t)) y) 25 17 54 17 q = y 17 q := fun q hq => by
        unfold mcpy
        rw [up_at, if_pos hq, hy 25 (by decide) (by decide) (by decide)]
        exact hv q hq
      have c15 : ∀ j, mcpy (mblm E (nI (10 * t)) y) 25 17 54 15 j = y 15 j := fun j => by
        rw [mcpy_ne _ _ _ trivial (by decide), hy 15 (by decide) (by decide) (by decide)]
      refine try_eq hE ⟨n0, n1, n2, n4⟩ n (t + 1) _ _ (by omega) ⟨fun b h1 k h2 => ?_, h.2.1.mono x1 (fun j _ => c15 j), ?_, ?_⟩ (fun q hq => ?_) (by rw [x1]; exact hc) (by rw [x1]; exact hlim)
      · have hl := hE.2.2.2.2.2.1 b (by omega)
        rw [c17 _ (by omega), ktry, ldry_far (by omega) _ _ (far_ba (by decide) (by omega)) (ne_al (by decide)), lcpy_far (by omega) _ (far_ba (by decide) (by omega)) (ne_al (by decide))]
        exact h.1 b h1 k h2
      · rw [c15]
        show y 15 10 = ktry E t x 6 0
        rw [ktry_lo E t x (by decide) (by decide)]
        exact h.2.2.1
      · rw [c15]
        show y 15 13 = ktry E t x 6 1
        rw [ktry_lo E t x (by decide) (by decide)]
        exact h.2.2.2
      · rw [c17 q hq, mcpy_ne _ _ _ trivial (by decide), hy 25 (by decide) (by decide) (by decide)]
        exact hv q hq
    · have ek : kch E (n + 1) t x = (ktry E t x, nI (10 * t)) := kch_stop E n t x c
      have em : mph E (n + 1) t y = (med (mblm E (nI (10 * t)) y), nI (10 * t)) := mph_go E n t y (st1.mpr c)
      rw [ek, em]
      refine ⟨rfl, s1.mono rfl (fun j hj => med_15 _ (by omega) (by omega)), fun q => absurd q (nI_rest (by omega)), fun _ => ⟨fun b h1 k h2 => ?_, d2⟩⟩
      show med _ 17 _ = _
      rw [med_ne _ (by decide)]
      exact d1 b h1 k h2
theorem kps_lo (E : Ev) (t : Nat) (x : Mem) {q : Nat} (h : q < 100) (h6 : q ≠ 6) (h7 : q ≠ 7) (h11 : q ≠ 11) : kps E t x q = x q := by
  unfold kps
  split
  · rw [lrst_lo E _ h, st_ne _ _ _ h11, kch_lo E h h7]
  · rw [lcpy_lo E _ h (by omega), st_ne _ _ _ h11, kch_lo E h h7]
theorem kps_11 (E : Ev) (t : Nat) (x : Mem) : kps E t x 11 = upd (x 11) t (kch E 31 0 x).2 := by
  have e : st (kch E 31 0 x).1 11 t (kch E 31 0 x).2 11 = upd (x 11) t (kch E 31 0 x).2 := by
    show va_up _ 11 (upd ((kch E 31 0 x).1 11) t _) 11 = _
    rw [up_at, kch_lo E (by decide) (by decide)]
  unfold kps
  split
  · rw [lrst_lo E _ (by decide)]; exact e
  · rw [lcpy_lo E _ (by decide) (by decide)]; exact e
theorem ps_eq {E : Ev} (hE : EO E) (hN : EN E) {t : Nat} {x y : Mem} (h : QR E x y) (hc : ¬ x 1 2 = 0) (hlim : 0 ≤ x 1 3) : QR E (kps E t x) (mps E t y) ∧ mps E t y 26 = upd (y 26) t (kch E 31 0 x).2 := by
  have hn6 := hE.2.2.2.2.1 3 (by decide)
  have hN' := hN
  obtain ⟨n0, n1, n2, n4⟩ := hN
  have q0 : QR E x (mcpy y 17 25 54) := ⟨fun b h1 k h2 => by rw [mcpy_ne _ _ _ trivial (by decide)]; exact h.1 b h1 k h2, h.2.1.mono rfl (fun j _ => by rw [mcpy_ne _ _ _ trivial (by decide)]), by rw [mcpy_ne _ _ _ trivial (by decide)]; exact h.2.2.1, by rw [mcpy_ne _ _ _ trivial (by decide)]; exact h.2.2.2⟩
  obtain ⟨t1, t2, t3, t4⟩ := try_eq hE hN' 31 0 x (mcpy y 17 25 54) (by decide) q0 (fun q hq => by
    rw [mcpy_ne _ _ _ trivial (show (17 : Nat) ≠ 25 by decide)]
    unfold mcpy
    rw [up_at, if_pos hq]) hc hlim
  have m15 : ∀ j, j ≠ 23 → mps E t y 15 j = (mpl E y).1 15 j := fun j hj => by rw [mps, st_nj _ _ _ hj, st_ne _ _ _ (by decide)]
  have m17 : mps E t y 17 = (mpl E y).1 17 := by rw [mps, st_ne _ _ _ (by decide), st_ne _ _ _ (by decide)]
  have x1 : kps E t x 1 = x 1 := kps_lo E t x (by decide) (by decide) (by decide) (by decide)
  have k1 : (kch E 31 0 x).1 1 = x 1 := kch_lo E (by decide) (by decide) 31 0 x
  have hS : SR (kps E t x) (mps E t y) := by
    refine (show SR (kch E 31 0 x).1 (mpl E y).1 from t2).mono (by rw [x1, k1]) (fun j hj => m15 j (by omega))
  refine ⟨⟨?_, hS, ?_⟩, ?_⟩
  · intro b hb k hk
    rw [m17]
    unfold kps
    by_cases c : (kch E 31 0 x).2 = -1000006
    · rw [if_pos c]
      obtain ⟨y0, e0, z1, z2, z3⟩ := t3 c
      have r := rst_eq hE (i := 1) (by decide) n1 (x := st (kch E 31 0 x).1 11 t (kch E 31 0 x).2) (y := y0) (fun b h1 k h2 => by rw [st_ne _ _ _ (ne_al (by decide))]; exact z1 b h1 k h2) (z2.mono (st_ne _ _ _ (by decide)) (fun _ _ => rfl)) (eNb E 3) (Nat.le_refl _)
      show (mph E 31 0 (mcpy y 17 25 54)).1 17 _ = lrs E 1 _ (eNb E 1) _ _
      rw [e0, n1]
      exact r b hb k hk
    · rw [if_neg c]
      obtain ⟨z1, z2⟩ := t4 c
      exact lcpy_BR hE (i := 1) (o := 2) (by decide) (by decide) n1 (fun b h1 k h2 => by rw [st_ne _ _ _ (ne_al (by decide))]; exact z1 b h1 k h2) b hb k hk
  · unfold kps
    by_cases c : (kch E 31 0 x).2 = -1000006
    · rw [if_pos c]
      obtain ⟨y0, e0, z1, z2, z3⟩ := t3 c
      have e1 : ∀ j, (mpl E y).1 15 j = y0 15 j := fun j => by
        show (mph E 31 0 (mcpy y 17 25 54)).1 15 j = _
        rw [e0]
        show mrs E y0 _ 15 j = _
        rw [mrs_ne E y0 (by decide) (by decide)]
      refine ⟨?_, ?_⟩
      · rw [m15 10 (by decide), e1, lrst_lo E _ (by decide), st_ne _ _ _ (by decide)]; exact z3.1
      · rw [m15 13 (by decide), e1, lrst_lo E _ (by decide), st_ne _ _ _ (by decide)]; exact z3.2
    · rw [if_neg c]
      obtain ⟨z1, z2⟩ := t4 c
      refine lcpy_FR (E := E) (i := 1) (o := 2) ⟨?_, ?_⟩
      · rw [m15 10 (by decide), st_ne _ _ _ (by decide)]; exact z2.1
      · rw [m15 13 (by decide), st_ne _ _ _ (by decide)]; exact z2.2
  · rw [mps, st_ne _ _ _ (by decide)]
    show va_up _ 26 (upd ((mpl E y).1 26) t (mpl E y).2) 26 = _
    rw [up_at, show (mpl E y).2 = (kch E 31 0 x).2 from t1]
    congr 1
    show (mph E 31 0 (mcpy y 17 25 54)).1 26 = y 26
    rw [mph_o E (by decide) (by decide) (by decide) (by decide), mcpy_ne _ _ _ trivial (by decide)]
theorem pn_eq {E : Ev} (hE : EO E) (hN : EN E) {a : Int32} (ha : 0 ≤ a) : ∀ (n t : Nat) (x y : Mem), QR E x y → ¬ x 1 2 = 0 → 0 ≤ x 1 3 → (∀ j, j < t → y 26 j = x 11 j) → (mpn E a n t y).2 = (kpn E a n t x).2 ∧ QR E (kpn E a n t x).1 (mpn E a n t y).1 ∧ (∀ j, j < (kpn E a n t x).2 → (mpn E a n t y).1 26 j = (kpn E a n t x).1 11 j)
  | 0, t, x, y, h, _, _, hj => ⟨rfl, h, hj⟩
  | n + 1, t, x, y, h, hc, hlim, hj => by
    simp only [mpn, kpn]
    rw [wet_eq hE hN.2.1 h.1 ha]
    by_cases c : iwt E x 1 a = 0
    · rw [if_pos c, if_pos c]
      exact ⟨rfl, h, hj⟩
    · rw [if_neg c, if_neg c]
      obtain ⟨p1, p2⟩ := ps_eq hE hN (t := t) h hc hlim
      have x1 : kps E t x 1 = x 1 := kps_lo E t x (by decide) (by decide) (by decide) (by decide)
      refine pn_eq hE hN ha n (t + 1) _ _ p1 (by rw [x1]; exact hc) (by rw [x1]; exact hlim) (fun j hjt => ?_)
      rw [p2, kps_11]
      unfold upd
      by_cases e : j = t
      · rw [if_pos e, if_pos e]
      · rw [if_neg e, if_neg e]
        exact hj j (by omega)

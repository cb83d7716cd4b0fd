/-! plans, and boards that are added -/
theorem ktry_far {E : Ev} (hE : EO E) (t : Nat) (x : Mem) {q : Nat} (h2 : far 2 q) (h7 : q ≠ 7) : ktry E t x q = x q := by
  have hn6 := hE.2.2.2.2.1 2 (by decide)
  rw [ktry, ldry_far (by omega) _ _ h2 h7, lcpy_far (by omega) _ h2 h7]
theorem kch_far {E : Ev} (hE : EO E) {q : Nat} (h2 : far 2 q) (h7 : q ≠ 7) : ∀ (n t : Nat) (x : Mem), (kch E n t x).1 q = x q
  | 0, _, _ => rfl
  | n + 1, t, x => by
    simp only [kch]
    split
    · rw [kch_far hE h2 h7 n (t + 1), ktry_far hE t x h2 h7]
    · exact ktry_far hE t x h2 h7
theorem kps_far {E : Ev} (hE : EO E) (t : Nat) (x : Mem) {q : Nat} (h1 : far 1 q) (h2 : far 2 q) (h6 : q ≠ 6) (h7 : q ≠ 7) (h11 : q ≠ 11) : kps E t x q = x q := by
  have hn6 := hE.2.2.2.2.1 1 (by decide)
  unfold kps
  split
  · rw [lrst, lrs_far _ h1 _ (by omega), st_ne _ _ _ h11, kch_far hE h2 h7]
  · rw [lcpy_far (by omega) _ h1 h6, st_ne _ _ _ h11, kch_far hE h2 h7]
theorem kpn_far {E : Ev} (hE : EO E) (a : Int32) {q : Nat} (h1 : far 1 q) (h2 : far 2 q) (h6 : q ≠ 6) (h7 : q ≠ 7) (h11 : q ≠ 11) : ∀ (n t : Nat) (x : Mem), (kpn E a n t x).1 q = x q
  | 0, _, _ => rfl
  | n + 1, t, x => by
    simp only [kpn]
    split
    · rfl
    · rw [kpn_far hE a h1 h2 h6 h7 h11 n (t + 1), kps_far hE t x h1 h2 h6 h7 h11]
theorem kplm_far {E : Ev} (hE : EO E) (a : Int32) (x : Mem) {q : Nat} (h1 : far 1 q) (h2 : far 2 q) (h6 : q ≠ 6) (h7 : q ≠ 7) (h11 : q ≠ 11) : kplm E x a q = x q := by
  have hn6 := hE.2.2.2.2.1 1 (by decide)
  rw [kplm, kpn_far hE a h1 h2 h6 h7 h11, lcpy_far (by omega) _ h1 h6]
theorem kplm_lo {E : Ev} (hE : EO E) (a : Int32) (x : Mem) {q : Nat} (h : q < 100) (h6 : q ≠ 6) (h7 : q ≠ 7) (h11 : q ≠ 11) : kplm E x a q = x q := kplm_far hE a x (far_lo h) (far_lo h) h6 h7 h11
theorem mps_o (E : Ev) (t : Nat) (w : Mem) {q : Nat} (h15 : q ≠ 15) (h17 : q ≠ 17) (h19 : q ≠ 19) (h20 : q ≠ 20) (h25 : q ≠ 25) (h26 : q ≠ 26) : mps E t w q = w q := by
  rw [mps, st_ne _ _ _ h15, st_ne _ _ _ h26, mpl, mph_o E h17 h20 h19 h15, mcpy_ne _ _ _ trivial h25]
theorem mps_15 (E : Ev) (t : Nat) (w : Mem) {j : Nat} (h10 : j ≠ 10) (h13 : j ≠ 13) (h23 : j ≠ 23) : mps E t w 15 j = w 15 j := by
  rw [mps, st_nj _ _ _ h23, st_ne _ _ _ (by decide), mpl_15 E h13 h10]
theorem mpn_o (E : Ev) (a : Int32) {q : Nat} (h15 : q ≠ 15) (h17 : q ≠ 17) (h19 : q ≠ 19) (h20 : q ≠ 20) (h25 : q ≠ 25) (h26 : q ≠ 26) : ∀ (n t : Nat) (w : Mem), (mpn E a n t w).1 q = w q
  | 0, _, _ => rfl
  | n + 1, t, w => by
    simp only [mpn]
    split
    · rfl
    · rw [mpn_o E a h15 h17 h19 h20 h25 h26 n (t + 1), mps_o E t w h15 h17 h19 h20 h25 h26]
theorem mpn_15 (E : Ev) (a : Int32) {j : Nat} (h10 : j ≠ 10) (h13 : j ≠ 13) (h23 : j ≠ 23) : ∀ (n t : Nat) (w : Mem), (mpn E a n t w).1 15 j = w 15 j
  | 0, _, _ => rfl
  | n + 1, t, w => by
    simp only [mpn]
    split
    · rfl
    · rw [mpn_15 E a h10 h13 h23 n (t + 1), mps_15 E t w h10 h13 h23]
theorem mst0_o (y : Mem) {q : Nat} (h15 : q ≠ 15) (h23 : q ≠ 23) (h24 : q ≠ 24) : mst0 y q = y q := by
  rw [mst0, st_ne _ _ _ h15, mcpy_ne _ _ _ trivial h24, mcpy_ne _ _ _ trivial h23]
theorem mst0_15 (y : Mem) {j : Nat} (h : j ≠ 23) : mst0 y 15 j = y 15 j := by
  rw [mst0, st_nj _ _ _ h, mcpy_ne _ _ _ trivial (by decide), mcpy_ne _ _ _ trivial (by decide)]
theorem mfm_o (E : Ev) (y : Mem) (a : Int32) {q : Nat} (h15 : q ≠ 15) (h17 : q ≠ 17) (h19 : q ≠ 19) (h20 : q ≠ 20) (h23 : q ≠ 23) (h24 : q ≠ 24) (h25 : q ≠ 25) (h26 : q ≠ 26) : mfm E y a q = y q := by
  rw [mfm, mfin, st_ne _ _ _ h15, st_ne _ _ _ h15, mcpy_ne _ _ _ trivial h19, mcpy_ne _ _ _ trivial h17, mpn_o E a h15 h17 h19 h20 h25 h26, mst0_o y h15 h23 h24]
theorem mfm_15 (E : Ev) (y : Mem) (a : Int32) {j : Nat} (h23 : j ≠ 23) : mfm E y a 15 j = y 15 j := by
  rw [mfm, mfin]
  by_cases h13 : j = 13
  · subst h13; rw [st_at]
  rw [st_nj _ _ _ h13]
  by_cases h10 : j = 10
  · subst h10; rw [st_at]
  rw [st_nj _ _ _ h10, mcpy_ne _ _ _ trivial (by decide), mcpy_ne _ _ _ trivial (by decide), mpn_15 E a h10 h13 h23, mst0_15 y h23]
theorem mfm_17 (E : Ev) (y : Mem) (a : Int32) {q : Nat} (h : q < 54) : mfm E y a 17 q = y 17 q := by
  rw [mfm, mfin, st_ne _ _ _ (by decide), st_ne _ _ _ (by decide), mcpy_ne _ _ _ trivial (by decide)]
  have e1 : mcpy (mpn E a 300 0 (mst0 y)).1 23 17 54 17 q = (mpn E a 300 0 (mst0 y)).1 23 q := by
    unfold mcpy
    rw [up_at, if_pos h]
  have e2 : mst0 y 23 q = y 17 q := by
    rw [mst0, st_ne _ _ _ (by decide), mcpy_ne _ _ _ trivial (by decide)]
    unfold mcpy
    rw [up_at, if_pos h]
  rw [e1, mpn_o E a (by decide) (by decide) (by decide) (by decide) (by decide) (by decide), e2]
theorem mfm_19 (E : Ev) (y : Mem) (a : Int32) {q : Nat} (h : q < 6) : mfm E y a 19 q = y 19 q := by
  rw [mfm, mfin, st_ne _ _ _ (by decide), st_ne _ _ _ (by decide)]
  have e1 : mcpy (mcpy (mpn E a 300 0 (mst0 y)).1 23 17 54) 24 19 6 19 q = (mpn E a 300 0 (mst0 y)).1 24 q := by
    rw [mcpy, up_at, if_pos h, mcpy_ne _ _ _ trivial (by decide)]
  have e2 : mst0 y 24 q = y 19 q := by
    rw [mst0, st_ne _ _ _ (by decide)]
    rw [mcpy, up_at, if_pos h, mcpy_ne _ _ _ trivial (by decide)]
  rw [e1, mpn_o E a (by decide) (by decide) (by decide) (by decide) (by decide) (by decide), e2]
theorem mfm_26 (E : Ev) (y : Mem) (a : Int32) : mfm E y a 26 = (mpn E a 300 0 (mst0 y)).1 26 := by
  rw [mfm, mfin, st_ne _ _ _ (by decide), st_ne _ _ _ (by decide), mcpy_ne _ _ _ trivial (by decide), mcpy_ne _ _ _ trivial (by decide)]
theorem plan_eq {E : Ev} (hE : EO E) (hN : EN E) {ns : Nat} {x y : Mem} (h : RB E ns x y) (hf : FR 0 x y) (hs : SB x) {a : Int32} (ha : 0 ≤ a) : (mpn E a 300 0 (mst0 y)).2 = (kpn E a 300 0 (lcpy E 1 0 x)).2 ∧ (mfr E y a = 0 ↔ ¬ iwt E (kplm E x a) 1 a = 0) ∧ (∀ j, j < (kpn E a 300 0 (lcpy E 1 0 x)).2 → mfm E y a 26 j = kplm E x a 11 j) := by
  have l1 : lcpy E 1 0 x 1 = x 1 := lcpy_lo E x (by decide) (by decide)
  have q0 : QR E (lcpy E 1 0 x) (mst0 y) := by
    refine ⟨?_, ?_, ?_⟩
    · refine lcpy_BR hE (i := 1) (o := 0) (by decide) (by decide) hN.2.1 (fun b hb k hk => ?_)
      rw [mst0_o y (by decide) (by decide) (by decide)]
      exact h.1 b hb k hk
    · exact h.2.2.2.1.mono l1 (fun j hj => mst0_15 y (by omega))
    · refine lcpy_FR (E := E) (i := 1) (o := 0) ⟨?_, ?_⟩
      · rw [mst0_15 y (by decide)]; exact hf.1
      · rw [mst0_15 y (by decide)]; exact hf.2
  obtain ⟨p1, p2, p3⟩ := pn_eq hE hN ha 300 0 (lcpy E 1 0 x) (mst0 y) q0 (by rw [l1]; exact hs.cap) (by rw [l1]; exact hs.2.2.2.1.nn (by decide)) (fun j hj => absurd hj (by omega))
  refine ⟨p1, ?_, fun j hj => ?_⟩
  · unfold mfr
    rw [wet_eq hE hN.2.1 p2.1 ha]
    show (if iwt E (kplm E x a) 1 a = 0 then (1 : Int32) else 0) = 0 ↔ _
    by_cases c : iwt E (kplm E x a) 1 a = 0
    · rw [if_pos c]
      exact ⟨fun q => absurd q (by decide), fun q => absurd c q⟩
    · rw [if_neg c]
      exact ⟨fun _ => c, fun _ => rfl⟩
  · rw [mfm_26]
    exact p3 j hj
theorem plan_inv {E : Ev} {ns : Nat} {v : Mem} (h : INV E ns v) (a : Int32) : INV E ns (mfm E (kplm E v a) a) := by
  have h' := h
  obtain ⟨hE, hX, hN, h8, hr, hf, hp⟩ := h'
  have lo : ∀ q, q < 100 → q ≠ 6 → q ≠ 7 → q ≠ 11 → kplm E v a q = v q := fun q h0 h1 h2 h3 => kplm_lo hE a v h0 h1 h2 h3
  have la : ∀ b, b < 6 → kplm E v a (ba 0 b) = v (ba 0 b) := fun b hb => kplm_far hE a v (far_ba (by decide) (by omega)) (far_ba (by decide) (by omega)) (ne_al (by decide)) (ne_al (by decide)) (ne_al (by decide))
  have lb : ∀ b, b < 6 → kplm E v a (bo 0 b) = v (bo 0 b) := fun b hb => kplm_far hE a v (far_bo (by decide) (by omega)) (far_bo (by decide) (by omega)) (ne_bl (by decide)) (ne_bl (by decide)) (ne_bl (by decide))
  obtain ⟨r, f⟩ := h.split (v1 := kplm E v a) (fun q hq => lo q (by omega) (by omega) (by omega) (by omega))
  obtain ⟨r1, r2, r3, r4, r5, r6, r7, r8, r9⟩ := id r
  refine INV.next hE hX hN h8 (v1 := kplm E v a) ?_ ?_ ?_ (fun q hq => mfm_o E _ a (by omega) (by omega) (by omega) (by omega) (by omega) (by omega) (by omega) (by omega))
  · refine RB.gen hE r la lb (fun q hq => mfm_17 E _ a hq) (fun q hq => by rw [mfm_o E _ a (by decide) (by decide) (by decide) (by decide) (by decide) (by decide) (by decide) (by decide)]) (fun q hq => mfm_19 E _ a hq) (r4.mono (lo 1 (by decide) (by decide) (by decide) (by decide)) (fun j hj => mfm_15 E _ a (by omega))) ?_ ?_ ⟨?_, ?_, fun t ht => ?_⟩
    · rw [mfm_15 E _ a (by decide), lo 0 (by decide) (by decide) (by decide) (by decide)]; exact r5
    · rw [mfm_15 E _ a (by decide), lo 0 (by decide) (by decide) (by decide) (by decide)]; exact r6
    · rw [lo 2 (by decide) (by decide) (by decide) (by decide)]; exact r7
    · rw [mfm_15 E _ a (by decide)]; exact r8
    · rw [mfm_o E _ a (by decide) (by decide) (by decide) (by decide) (by decide) (by decide) (by decide) (by decide), mfm_o E _ a (by decide) (by decide) (by decide) (by decide) (by decide) (by decide) (by decide) (by decide), lo 3 (by decide) (by decide) (by decide) (by decide), lo 4 (by decide) (by decide) (by decide) (by decide)]; exact r9 t ht
  · refine ⟨?_, ?_⟩
    · rw [mfm_15 E _ a (by decide), lo (5 + 0) (by decide) (by decide) (by decide) (by decide)]; exact f.1
    · rw [mfm_15 E _ a (by decide), lo (5 + 0) (by decide) (by decide) (by decide) (by decide)]; exact f.2
  · obtain ⟨p1, p2, p3, p4⟩ := hp
    have hn6 := hE.2.2.2.2.1 0 (by decide)
    refine ⟨?_, fun t ht => ?_, ?_, p4.keep (fun b hb => la b (by omega))⟩
    · unfold SB; rw [lo 1 (by decide) (by decide) (by decide) (by decide)]; exact p1
    · rw [lo 3 (by decide) (by decide) (by decide) (by decide), lo 4 (by decide) (by decide) (by decide) (by decide)]; exact p2 t ht
    · rw [lo 5 (by decide) (by decide) (by decide) (by decide)]; exact p3
theorem o_ph {E : Ev} {ns : Nat} {v : Mem} (h : INV E ns v) (a : Int32) : mphr E (kphm E v a) a = kphr E v a ∧ INV E ns (mphm E (kphm E v a) a) := by
  have h' := h
  obtain ⟨hE, hX, hN, h8, hr, hf, hp⟩ := h'
  unfold mphr kphm kphr mphm
  rcases out_btw a 0 2000 with ⟨h1, h2⟩ | ⟨h1, h2⟩
  · rw [if_pos h1, if_pos h1, if_neg h2, if_neg h2]
    refine ⟨?_, plan_inv h a⟩
    obtain ⟨r, f⟩ := h.split (v1 := kplm E v a) (fun q hq => kplm_lo hE a v (by omega) (by omega) (by omega) (by omega))
    obtain ⟨e1, e2, e3⟩ := plan_eq hE hN r f hp.1 ((out_bd h1).nn (by decide))
    unfold kplr
    rw [mfm_23, e1]
    by_cases c : iwt E (kplm E v a) 1 a = 0
    · rw [if_pos c, if_neg (fun q => e2.mp q c)]
    · rw [if_neg c, if_pos (e2.mpr c)]
  · rw [if_neg h1, if_neg h1, if_pos h2, if_pos h2]
    exact ⟨rfl, h⟩
theorem o_pi {E : Ev} {ns : Nat} {v : Mem} (h : INV E ns v) (a b : Int32) : mpir E (kpim E v a b) a b = kpir E v a b ∧ INV E ns (mpim E (kpim E v a b) a b) := by
  have h' := h
  obtain ⟨hE, hX, hN, h8, hr, hf, hp⟩ := h'
  unfold mpir kpim kpir mpim
  rcases out_btw a 0 2000 with ⟨h1, h2⟩ | ⟨h1, h2⟩
  · rw [if_pos h1, if_pos h1, if_neg h2, if_neg h2]
    by_cases g : 0 ≤ b
    · simp only [if_pos g]
      refine ⟨?_, plan_inv h a⟩
      obtain ⟨r, f⟩ := h.split (v1 := kplm E v a) (fun q hq => kplm_lo hE a v (by omega) (by omega) (by omega) (by omega))
      obtain ⟨e1, e2, e3⟩ := plan_eq hE hN r f hp.1 ((out_bd h1).nn (by decide))
      have hle := mfm_le E (kplm E v a) a
      unfold kplr
      rw [mfm_23]
      rw [e1] at hle ⊢
      by_cases c : iwt E (kplm E v a) 1 a = 0
      · rw [if_pos c, if_neg (fun q => e2.mp q c)]
        generalize hM : (kpn E a 300 0 (lcpy E 1 0 v)).2 = M at hle e3
        rcases pk_ix b (n := M) (by omega) with q | q | ⟨j, hj, rfl⟩
        · exact absurd (Int32.lt_of_lt_of_le q g) Int32.lt_irrefl
        · rw [if_pos q, if_pos q]
        · rw [if_neg (nI_ge hj (by omega)), if_neg (nI_ge hj (by omega)), if_neg (nI_ge (show j < 300 by omega) (by omega)), nI_clamp (by omega)]
          exact e3 j hj
      · rw [if_neg c, if_pos (e2.mpr c), if_pos (Int32.le_trans (by decide) g)]
    · simp only [if_neg g]
      exact ⟨trivial, h⟩
  · rw [if_neg h1, if_neg h1, if_pos h2, if_pos h2]
    exact ⟨rfl, h⟩
/-! a board is added -/
theorem vB_o (v : Mem) (i n L : Nat) (x : Int32) {q : Nat} (h8 : q ≠ 8 + i) (ho : q ≠ bo i n) (ha : q ≠ ba i n) : vB v i n L x q = v q := by
  rw [vB, up_ne _ _ ha, up_ne _ _ ho, st_ne _ _ _ h8]
theorem vB3_lo (v : Mem) (n L : Nat) (x : Int32) {q : Nat} (h : q < 100) (h8 : q ≠ 8) (h9 : q ≠ 9) (h10 : q ≠ 10) : vB3 v n L x q = v q := by
  rw [vB3, vB_o _ _ _ _ _ h10 (Ne.symm (ne_bl h)) (Ne.symm (ne_al h)), vB_o _ _ _ _ _ h9 (Ne.symm (ne_bl h)) (Ne.symm (ne_al h)), vB_o _ _ _ _ _ h8 (Ne.symm (ne_bl h)) (Ne.symm (ne_al h))]
theorem vB3_ba (v : Mem) {n : Nat} (hn : n < 10) (L : Nat) (x : Int32) {b : Nat} (hb : b < 10) (h : b ≠ n) : vB3 v n L x (ba 0 b) = v (ba 0 b) := by
  rw [vB3, vB_o _ _ _ _ _ (ne_al (by decide)) (ne_ab hb hn) (fun q => absurd (ba_inj hb hn q).1 (by decide)), vB_o _ _ _ _ _ (ne_al (by decide)) (ne_ab hb hn) (fun q => absurd (ba_inj hb hn q).1 (by decide)), vB_o _ _ _ _ _ (ne_al (by decide)) (ne_ab hb hn) (fun q => h (ba_inj hb hn q).2)]
theorem vB3_bo (v : Mem) {n : Nat} (hn : n < 10) (L : Nat) (x : Int32) {b : Nat} (hb : b < 10) (h : b ≠ n) : vB3 v n L x (bo 0 b) = v (bo 0 b) := by
  rw [vB3, vB_o _ _ _ _ _ (ne_bl (by decide)) (fun q => absurd (bo_inj hb hn q).1 (by decide)) (Ne.symm (ne_ab hn hb)), vB_o _ _ _ _ _ (ne_bl (by decide)) (fun q => absurd (bo_inj hb hn q).1 (by decide)) (Ne.symm (ne_ab hn hb)), vB_o _ _ _ _ _ (ne_bl (by decide)) (fun q => h (bo_inj hb hn q).2) (Ne.symm (ne_ab hn hb))]
theorem vB3_ban (v : Mem) {n : Nat} (hn : n < 10) (L : Nat) (x : Int32) : vB3 v n L x (ba 0 n) = frow x (fun _ => 0) L := by
  rw [vB3, vB_o _ _ _ _ _ (ne_al (by decide)) (ne_ab hn hn) (fun q => absurd (ba_inj hn hn q).1 (by decide)), vB_o _ _ _ _ _ (ne_al (by decide)) (ne_ab hn hn) (fun q => absurd (ba_inj hn hn q).1 (by decide)), vB, up_at]
theorem vB3_bon (v : Mem) {n : Nat} (hn : n < 10) (L : Nat) (x : Int32) : vB3 v n L x (bo 0 n) = fun _ => -1000005 := by
  rw [vB3, vB_o _ _ _ _ _ (ne_bl (by decide)) (fun q => absurd (bo_inj hn hn q).1 (by decide)) (Ne.symm (ne_ab hn hn)), vB_o _ _ _ _ _ (ne_bl (by decide)) (fun q => absurd (bo_inj hn hn q).1 (by decide)) (Ne.symm (ne_ab hn hn)), vB, up_ne _ _ (Ne.symm (ne_ab hn hn)), up_at]
theorem vM_o (v : Mem) (n L : Nat) (x : Int32) {q : Nat} (h17 : q ≠ 17) (h18 : q ≠ 18) (h19 : q ≠ 19) : vM v n L x q = v q := by
  rw [vM, up_ne _ _ h17, st_ne _ _ _ h19, st_ne _ _ _ h18]
theorem eo_m3 {E : Ev} (hE : EO E) (hX : EX E) {n : Nat} (hn : n < 6) : EO (eM3 E n) ∧ EX (eM3 E n) := by
  obtain ⟨e1, e2, e3, e4, e5, e6, e7⟩ := hE
  have nbo : ∀ i, i < 3 → eNb (eM3 E n) i = eNb E i := fun i hi => by rw [eM3_o E n (by omega), eM4_o E n (by omega)]
  refine ⟨⟨e1, e2, fun i hi h => e3 i hi (by rw [← nbo i hi]; exact h), fun i j hi hj => e4 i j hi (by rw [← nbo i hi]; exact hj), fun i hi => ?_, e6, ?_⟩, fun k hk => ?_⟩
  · by_cases h3 : i = 3
    · subst h3; rw [eM3_3]; omega
    · rw [nbo i (by omega)]; exact e5 i hi
  · rw [eM3_3, eM3_o E n (by decide), eM4_4]
    omega
  · rcases hX k hk with q | q | ⟨i, hi, hne, q⟩ | ⟨i, j, hi, hj, q⟩
    · exact Or.inl q
    · exact Or.inr (Or.inl q)
    · exact Or.inr (Or.inr (Or.inl ⟨i, hi, by rw [nbo i hi]; exact hne, q⟩))
    · exact Or.inr (Or.inr (Or.inr ⟨i, j, hi, by rw [nbo i hi]; exact hj, q⟩))
/-- between class and model: the class has the board, the model not yet -/
theorem o_add1 {E : Ev} {ns : Nat} {v : Mem} (h : INV E ns v) {a b r : Int32} {u : Ev × Mem} (hu : ADD E v a b r u) : EO u.1 ∧ eNb u.1 3 = eNb u.1 4 ∧ (¬ btw a 3 9 = 0 → ¬ btw b 0 2000 = 0 → eNb u.1 3 < 6 → a = nI (eLn u.1 (eNb u.1 3))) ∧ eD u.1 = eD E ∧ eA u.1 = eA E ∧ eZ u.1 = eZ E ∧ eI u.1 = eI E ∧ eO u.1 = eO E ∧ eAd u.1 0 = eAd E 0 ∧ eAd u.1 15 = eAd E 15 := by
  obtain ⟨hE, hX, hN, h8, hr, hf, hp⟩ := h
  rcases hu with ⟨rfl, rfl, hne⟩ | ⟨rfl, rfl, h1, h2, h3⟩ | ⟨L, hL3, hL9, ea, h1, h2, h3, rfl, hen, hE1, hX1, e⟩
  · refine ⟨hE, hN.2.2.2.symm, fun b1 b2 _ => ?_, rfl, rfl, rfl, rfl, rfl, rfl, rfl⟩
    rcases out_btw a 3 9 with q | q
    · rcases out_btw b 0 2000 with q2 | q2
      · exact absurd ⟨q.1, q2.1⟩ hne
      · exact absurd q2.2 b2
    · exact absurd q.2 b1
  · exact ⟨hE, hN.2.2.2.symm, fun _ _ b3 => absurd (show eNb E 0 < 6 by rw [hN.1]; exact b3) h3, rfl, rfl, rfl, rfl, rfl, rfl, rfl⟩
  · obtain ⟨n1, n2, n3, n4, n5, n6, n7, n8, n9⟩ := hen
    refine ⟨hE1, ?_, fun _ _ _ => ?_, n1, n2, n3, n4, n5, n8 0 (by decide), n9 15 (by decide) (by decide)⟩
    · rw [n6 3, n6 4, if_neg (by decide), if_neg (by decide)]
      exact hN.2.2.2.symm
    · rw [n6 3, if_neg (by decide), n7, ← hN.1, up_at]
      exact ea
theorem o_add2 {E : Ev} {ns : Nat} {v : Mem} (h : INV E ns v) {a b r r2 : Int32} {u u2 : Ev × Mem} (hu : ADD E v a b r u) (hm : MADD u.1 u.2 a b r2 u2) : r2 = r ∧ INV u2.1 ns u2.2 ∧ eD u2.1 = eD E ∧ eA u2.1 = eA E ∧ eZ u2.1 = eZ E ∧ eI u2.1 = eI E ∧ eO u2.1 = eO E ∧ eAd u2.1 0 = eAd E 0 ∧ eAd u2.1 15 = eAd E 15 := by
  have hi := h
  obtain ⟨hE, hX, hN, h8, hr, hf, hp⟩ := h
  have hoi := out_btw a 3 9
  have hob := out_btw b 0 2000
  rcases hu with ⟨rfl, rfl, hne⟩ | ⟨rfl, rfl, h1, h2, h3⟩ | ⟨L, hL3, hL9, ea, h1, h2, h3, rfl, hen, hE1, hX1, e⟩
  · rcases hm with ⟨rfl, rfl, hb⟩ | ⟨rfl, rfl, m1, m2, m3⟩ | ⟨m1, m2, m3, -⟩
    · exact ⟨rfl, hi, rfl, rfl, rfl, rfl, rfl, rfl, rfl⟩
    · exact absurd ⟨(hoi.resolve_right (fun q => m1 q.2)).1, (hob.resolve_right (fun q => m2 q.2)).1⟩ hne
    · exact absurd ⟨(hoi.resolve_right (fun q => m1 q.2)).1, (hob.resolve_right (fun q => m2 q.2)).1⟩ hne
  · rcases hm with ⟨rfl, rfl, hb⟩ | ⟨rfl, rfl, m1, m2, m3⟩ | ⟨m1, m2, m3, -⟩
    · rcases hb with hb | hb
      · exact absurd hb (hoi.resolve_right (fun q => q.1 h1)).2
      · exact absurd hb (hob.resolve_right (fun q => q.1 h2)).2
    · exact ⟨rfl, hi, rfl, rfl, rfl, rfl, rfl, rfl, rfl⟩
    · exact absurd (show eNb E 0 < 6 by rw [hN.1]; exact m3) h3
  · obtain ⟨n1, n2, n3, n4, n5, n6, n7, n8, n9⟩ := hen
    obtain ⟨E1, v1⟩ := u
    obtain rfl : v1 = vB3 v (eNb E 0) L b := e
    have e3 : eNb E1 3 = eNb E 0 := by
      have := n6 3
      rw [if_neg (by decide)] at this
      rw [hN.1]
      exact this
    rcases hm with ⟨rfl, rfl, hb⟩ | ⟨rfl, rfl, m1, m2, m3⟩ | ⟨m1, m2, m3, rfl, rfl⟩
    · rcases hb with hb | hb
      · exact absurd hb (hoi.resolve_right (fun q => q.1 h1)).2
      · exact absurd hb (hob.resolve_right (fun q => q.1 h2)).2
    · exact absurd (show eNb E1 3 < 6 by rw [e3]; exact h3) m3
    · have e3' : eNb (E1, vB3 v (eNb E 0) L b).1 3 = eNb E 0 := e3
      have eL : eLn E1 (eNb E 0) = L := by
        have := congrFun n7 (eNb E 0)
        rw [up_at] at this
        exact this
      refine ⟨by rw [e3'], ?_, n1, n2, n3, n4, n5, n8 0 (by decide), n9 15 (by decide) (by decide)⟩
      show INV (eM3 E1 (eNb E1 3)) ns (vM (vB3 v (eNb E 0) L b) (eNb E1 3) (eLn E1 (eNb E1 3)) b)
      rw [e3, eL]
      generalize hn : eNb E 0 = n at *
      have hn6 : n < 6 := h3
      obtain ⟨o1, o2⟩ := eo_m3 hE1 hX1 hn6
      have nb : ∀ i, i < 3 → eNb (eM3 E1 n) i = n + 1 := fun i hi => by
        rw [eM3_o E1 n (by omega), eM4_o E1 n (by omega)]
        have := n6 i
        rw [if_pos hi] at this
        exact this
      have ln : ∀ j, j ≠ n → eLn (eM3 E1 n) j = eLn E j := fun j hj => by
        show eLn E1 j = eLn E j
        have := congrFun n7 j
        rw [up_ne _ _ hj] at this
        exact this
      have lnn : eLn (eM3 E1 n) n = L := eL
      have hN' : EN (eM3 E1 n) := ⟨by rw [nb 0 (by decide), eM3_3], by rw [nb 1 (by decide), eM3_3], by rw [nb 2 (by decide), eM3_3], by rw [eM3_o E1 n (by decide), eM4_4, eM3_3]⟩
      have lo : ∀ q, q < 100 → q ≠ 8 → q ≠ 9 → q ≠ 10 → vB3 v n L b q = v q := fun q h0 h1 h2 h3 => vB3_lo v n L b h0 h1 h2 h3
      have mo : ∀ q, q ≠ 17 → q ≠ 18 → q ≠ 19 → vM (vB3 v n L b) n L b q = vB3 v n L b q := fun q h1 h2 h3 => vM_o _ _ _ _ h1 h2 h3
      obtain ⟨r1, r2, r3, r4, r5, r6, r7, r8, r9⟩ := id hr
      refine INV.next o1 o2 hN' h8 (v1 := vB3 v n L b) ?_ ?_ ?_ (fun q hq => mo q (by omega) (by omega) (by omega))
      · refine ⟨fun j hj k hk => ?_, fun j hj => ?_, fun j hj => ?_, ?_, ?_, ?_, ?_, ?_, fun t ht => ?_⟩
        · rw [eM3_3] at hj
          show va_up _ 17 (mfill (vB3 v n L b 17) n L b L) 17 (9 * j + k) = _
          rw [up_at]
          unfold mfill
          by_cases ej : j = n
          · subst ej
            rw [lnn] at hk
            rw [if_pos (by omega), vB3_ban v (by omega)]
            exact (if_pos hk).symm
          · rw [ln j ej] at hk
            have hl := hE.2.2.2.2.2.1 j (by omega)
            rw [if_neg (by omega), lo 17 (by decide) (by decide) (by decide) (by decide), vB3_ba v (by omega) L b (by omega) ej]
            exact r1 j (by rw [← hN.1]; omega) k hk
        · rw [eM3_3] at hj
          rw [vM, up_ne _ _ (by decide), st_ne _ _ _ (by decide)]
          by_cases ej : j = n
          · subst ej
            rw [st_at, vB3_bon v (by omega)]
          · rw [st_nj _ _ _ ej, lo 18 (by decide) (by decide) (by decide) (by decide), vB3_bo v (by omega) L b (by omega) ej]
            exact r2 j (by rw [← hN.1]; omega)
        · rw [eM3_3] at hj
          rw [vM, up_ne _ _ (by decide)]
          by_cases ej : j = n
          · subst ej
            rw [st_at, vB3_bon v (by omega)]
          · rw [st_nj _ _ _ ej, st_ne _ _ _ (by decide), lo 19 (by decide) (by decide) (by decide) (by decide), vB3_bo v (by omega) L b (by omega) ej]
            exact r3 j (by rw [← hN.1]; omega)
        · refine r4.mono (lo 1 (by decide) (by decide) (by decide) (by decide)) (fun j _ => ?_)
          rw [mo 15 (by decide) (by decide) (by decide), lo 15 (by decide) (by decide) (by decide) (by decide)]
        · rw [mo 15 (by decide) (by decide) (by decide), lo 15 (by decide) (by decide) (by decide) (by decide), lo 0 (by decide) (by decide) (by decide) (by decide)]; exact r5
        · rw [mo 15 (by decide) (by decide) (by decide), lo 15 (by decide) (by decide) (by decide) (by decide), lo 0 (by decide) (by decide) (by decide) (by decide)]; exact r6
        · rw [lo 2 (by decide) (by decide) (by decide) (by decide)]; exact r7
        · rw [mo 15 (by decide) (by decide) (by decide), lo 15 (by decide) (by decide) (by decide) (by decide)]; exact r8
        · rw [mo 21 (by decide) (by decide) (by decide), mo 22 (by decide) (by decide) (by decide), lo 21 (by decide) (by decide) (by decide) (by decide), lo 22 (by decide) (by decide) (by decide) (by decide), lo 3 (by decide) (by decide) (by decide) (by decide), lo 4 (by decide) (by decide) (by decide) (by decide)]; exact r9 t ht
      · refine ⟨?_, ?_⟩
        · rw [mo 15 (by decide) (by decide) (by decide), lo 15 (by decide) (by decide) (by decide) (by decide), lo (5 + 0) (by decide) (by decide) (by decide) (by decide)]; exact hf.1
        · rw [mo 15 (by decide) (by decide) (by decide), lo 15 (by decide) (by decide) (by decide) (by decide), lo (5 + 0) (by decide) (by decide) (by decide) (by decide)]; exact hf.2
      · obtain ⟨p1, p2, p3, p4⟩ := hp
        refine ⟨?_, fun t ht => ?_, ?_, fun j hj k hk => ?_⟩
        · unfold SB; rw [lo 1 (by decide) (by decide) (by decide) (by decide)]; exact p1
        · rw [lo 3 (by decide) (by decide) (by decide) (by decide), lo 4 (by decide) (by decide) (by decide) (by decide)]; exact p2 t ht
        · rw [lo 5 (by decide) (by decide) (by decide) (by decide)]; exact p3
        · rw [nb 0 (by decide)] at hj
          by_cases ej : j = n
          · subst ej
            rw [lnn] at hk
            rw [vB3_ban v (by omega), frow, if_pos hk]
            exact out_bd h2
          · rw [ln j ej] at hk
            rw [vB3_ba v (by omega) L b (by omega) ej]
            exact p4 j (by omega) k hk

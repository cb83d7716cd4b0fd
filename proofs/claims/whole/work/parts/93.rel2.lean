/-! hours, rests, schedules: class beside model -/
def ST (ns : Nat) (x y : Mem) : Prop := x 2 2 = nI ns ∧ y 15 16 = nI ns ∧ ∀ t, t < ns → y 21 t = x 3 t ∧ y 22 t = x 4 t
def RB (E : Ev) (ns : Nat) (x y : Mem) : Prop := BR E 0 x y ∧ CR E x y ∧ AR E 0 x y ∧ SR x y ∧ y 15 12 = x 0 6 ∧ y 15 14 = x 0 7 ∧ ST ns x y
theorem lrc_2 (E : Ev) {i : Nat} (x h : Int32) (v : Mem) {b : Nat} : ∀ t, (lrc E i x h v t).1 (bo i b) 2 = v (bo i b) 2
  | 0 => rfl
  | t + 1 => by
    have ih := lrc_2 E (i := i) x h v (b := b) t
    simp only [lrc]
    split
    · split
      · exact ih
      · show st _ (bo i t) 1 h (bo i b) 2 = v (bo i b) 2
        by_cases e : bo i b = bo i t
        · rw [← e, st_nj _ _ _ (by decide)]
          exact ih
        · rw [st_ne _ _ _ e]
          exact ih
    · exact ih
theorem ldp_1 (E : Ev) {i : Nat} (a : Int32) (v : Mem) {b : Nat} (hb : b < 10) : ∀ {t : Nat}, eNb E i ≤ 9 → t ≤ eNb E i → (ldp E i a v t).1 (bo i b) 1 = v (bo i b) 1
  | 0, _, _ => rfl
  | t + 1, h9, ht => by
    have ih := ldp_1 E (i := i) a v hb (t := t) h9 (by omega)
    show bdry E i _ _ (ldp E i a v t).1 (bo i b) 1 = v (bo i b) 1
    have hnum : lnum E i (ldp E i a v t).1 t < 10 := by
      unfold lnum
      split <;> omega
    generalize lnum E i (ldp E i a v t).1 t = c at hnum ⊢
    rw [bdry, up_ne _ _ (Ne.symm (ne_ab hnum hb))]
    by_cases e : bo i b = bo i c
    · rw [← e, st_nj _ _ _ (by decide)]
      exact ih
    · rw [st_ne _ _ _ e]
      exact ih
theorem lrs_bo (E : Ev) {i : Nat} (v : Mem) {b : Nat} (hb : b < 10) : ∀ t, t ≤ 9 → lrs E i v t (bo i b) = v (bo i b)
  | 0, _ => rfl
  | t + 1, ht => by
    show brst E i t _ (lrs E i v t) (bo i b) = v (bo i b)
    rw [brst, up_ne _ _ (Ne.symm (ne_ab (by omega) hb)), lrs_bo E v hb t (by omega)]
theorem kend_eq {E : Ev} (hE : EO E) (hn : eNb E 0 = eNb E 3) {ns : Nat} {x y : Mem} (h : RB E ns x y) : RB E ns (kend E x).1 (mend E y).1 ∧ (mend E y).2 = (kend E x).2 := by
  obtain ⟨hb, hc, ha, hs, h12, h14, hst⟩ := h
  have hn6 := hE.2.2.2.2.1 3 (by decide)
  have b1 : BR E 0 (st x 0 6 (x 0 6 + 1)) (st y 15 12 (y 15 12 + 1)) := fun b h1 k h2 => by
    rw [st_ne _ _ _ (by decide), st_ne _ _ _ (ne_al (by decide))]
    exact hb b h1 k h2
  have c1 : CR E (st x 0 6 (x 0 6 + 1)) (st y 15 12 (y 15 12 + 1)) := fun b h1 => by
    rw [st_ne _ _ _ (by decide), st_ne _ _ _ (ne_bl (by decide))]
    exact hc b h1
  have e := rec_eq hE hn b1 c1 (lim := x 1 3) (hr := x 0 6 + 1) (by rw [st_nj _ _ _ (by decide)]; exact hs.2.2.2.1) (by rw [st_at, h12]) (eNb E 3) (Nat.le_refl _)
  have ek : kend E x = lrc E 0 (x 1 3) (x 0 6 + 1) (st x 0 6 (x 0 6 + 1)) (eNb E 3) := by unfold kend; rw [hn]
  have em : mend E y = mec E (st y 15 12 (y 15 12 + 1)) (eNb E 3) := rfl
  have fx : ∀ q, q < 100 → (kend E x).1 q = st x 0 6 (x 0 6 + 1) q := fun q hq => by rw [ek]; exact lrc_ne E _ _ _ (fun _ => Ne.symm (ne_bl hq)) _
  have fy : ∀ q, q ≠ 18 → (mend E y).1 q = st y 15 12 (y 15 12 + 1) q := fun q hq => by rw [em]; exact mec_ne E _ hq _
  refine ⟨⟨fun b h1 k h2 => ?_, ?_, fun b h1 => ?_, ?_, ?_, ?_, ?_, ?_, fun t ht => ?_⟩, ?_⟩
  · rw [fy 17 (by decide), ek, lrc_neb E _ _ _ (by omega) _ (by omega)]
    exact b1 b h1 k h2
  · rw [ek, em]
    exact e.1
  · rw [fy 19 (by decide), ek, lrc_2, st_ne _ _ _ (by decide), st_ne _ _ _ (ne_bl (by decide))]
    exact ha b h1
  · refine hs.mono ?_ (fun j hj => ?_)
    · rw [fx 1 (by decide), st_ne _ _ _ (by decide)]
    · rw [fy 15 (by decide), st_nj _ _ _ (by omega)]
  · rw [fy 15 (by decide), fx 0 (by decide), st_at, st_at, h12]
  · rw [fy 15 (by decide), fx 0 (by decide), st_nj _ _ _ (by decide), st_nj _ _ _ (by decide)]
    exact h14
  · rw [fx 2 (by decide), st_ne _ _ _ (by decide)]
    exact hst.1
  · rw [fy 15 (by decide), st_nj _ _ _ (by decide)]
    exact hst.2.1
  · rw [fy 21 (by decide), fy 22 (by decide), fx 3 (by decide), fx 4 (by decide), st_ne _ _ _ (by decide), st_ne _ _ _ (by decide), st_ne _ _ _ (by decide), st_ne _ _ _ (by decide)]
    exact hst.2.2 t ht
  · rw [ek, em]
    exact e.2
theorem med_congr {y z : Mem} (h10 : y 15 10 = z 15 10) (h11 : y 15 11 = z 15 11) (h13 : y 15 13 = z 15 13) : med y 15 10 = med z 15 10 ∧ med y 15 13 = med z 15 13 := by
  unfold med
  rw [h10, h11, h13]
  by_cases c : z 15 11 ≤ 0
  · rw [if_pos c, if_pos c]
    exact ⟨by rw [st_nj _ _ _ (by decide), st_nj _ _ _ (by decide)]; exact h10, by rw [st_at, st_at]⟩
  · rw [if_neg c, if_neg c]
    by_cases c2 : z 15 13 + 1 - (z 15 13 + 1) / z 15 11 * z 15 11 = 0
    · rw [if_pos c2, if_pos c2]
      exact ⟨by rw [st_at, st_at], by rw [st_nj _ _ _ (show 13 ≠ 10 by decide), st_nj _ _ _ (show 13 ≠ 10 by decide), st_at, st_at]⟩
    · rw [if_neg c2, if_neg c2]
      exact ⟨by rw [st_nj _ _ _ (by decide), st_nj _ _ _ (by decide)]; exact h10, by rw [st_at, st_at]⟩
theorem hour_eq {E : Ev} (hE : EO E) (hn : eNb E 0 = eNb E 3) {ns : Nat} {x y : Mem} (h : RB E ns x y) (hf : FR 0 x y) (hc : ¬ x 1 2 = 0) (a : Int32) : RB E ns (krh E a x) (mdh E a y) ∧ FR 0 (krh E a x) (mdh E a y) ∧ mblr E a y = lgiv E 0 a x := by
  have h' := h
  obtain ⟨hb, hcr, ha, hs, h12, h14, hst⟩ := h'
  have hn6 := hE.2.2.2.2.1 3 (by decide)
  obtain ⟨d1, d2, d3, d4⟩ := dry_eq hE (i := 0) (by decide) hn hb hs hf hc a
  have lo : ∀ q, q < 100 → q ≠ 5 → ldry E 0 a x q = x q := fun q h1 h2 => ldry_lo E a x h1 h2
  have ml : ∀ q, q ≠ 17 → q ≠ 20 → q ≠ 19 → mblm E a y q = y q := fun q h1 h2 h3 => mblm_ne E a y h1 h2 h3
  have r1 : RB E ns (st (ldry E 0 a x) 0 7 (x 0 7 + lgiv E 0 a x)) (st (mblm E a y) 15 14 (y 15 14 + mblr E a y)) := by
    refine ⟨fun b h1 k h2 => ?_, fun b h1 => ?_, fun b h1 => ?_, ?_, ?_, ?_, ?_, ?_, fun t ht => ?_⟩
    · rw [st_ne _ _ _ (by decide), st_ne _ _ _ (ne_al (by decide))]
      exact d1 b h1 k h2
    · rw [st_ne _ _ _ (by decide), st_ne _ _ _ (ne_bl (by decide)), ml 18 (by decide) (by decide) (by decide)]
      rw [ldry, lcnt_ne _ _ (ne_bl (by decide)), ldp_1 E a x (by omega) (by have := hE.2.2.2.2.1 0 (by decide); omega) (Nat.le_refl _)]
      exact hcr b h1
    · rw [st_ne _ _ _ (by decide), st_ne _ _ _ (ne_bl (by decide))]
      exact d4 ha b h1
    · refine hs.mono ?_ (fun j hj => ?_)
      · rw [st_ne _ _ _ (by decide), lo 1 (by decide) (by decide)]
      · rw [st_nj _ _ _ (by omega), ml 15 (by decide) (by decide) (by decide)]
    · rw [st_nj _ _ _ (by decide), st_nj _ _ _ (by decide), ml 15 (by decide) (by decide) (by decide), lo 0 (by decide) (by decide)]
      exact h12
    · rw [st_at, st_at, d3, h14]
    · rw [st_ne _ _ _ (by decide), lo 2 (by decide) (by decide)]
      exact hst.1
    · rw [st_nj _ _ _ (by decide), ml 15 (by decide) (by decide) (by decide)]
      exact hst.2.1
    · rw [st_ne _ _ _ (by decide), st_ne _ _ _ (by decide), st_ne _ _ _ (by decide), st_ne _ _ _ (by decide), ml 21 (by decide) (by decide) (by decide), ml 22 (by decide) (by decide) (by decide), lo 3 (by decide) (by decide), lo 4 (by decide) (by decide)]
      exact hst.2.2 t ht
  obtain ⟨r2, -⟩ := kend_eq hE hn r1
  refine ⟨?_, ?_, d3⟩
  · obtain ⟨q1, q2, q3, q4, q5, q6, q7⟩ := r2
    unfold krh mdh
    refine ⟨fun b h1 k h2 => ?_, fun b h1 => ?_, fun b h1 => ?_, q4.mono rfl (fun j hj => med_15 _ (by omega) (by omega)), ?_, ?_, q7.1, ?_, fun t ht => ?_⟩
    · rw [med_ne _ (by decide)]; exact q1 b h1 k h2
    · rw [med_ne _ (by decide)]; exact q2 b h1
    · rw [med_ne _ (by decide)]; exact q3 b h1
    · rw [med_15 _ (by decide) (by decide)]; exact q5
    · rw [med_15 _ (by decide) (by decide)]; exact q6
    · rw [med_15 _ (by decide) (by decide)]; exact q7.2.1
    · rw [med_ne _ (by decide), med_ne _ (by decide)]; exact q7.2.2 t ht
  · have hm : ∀ j, j ≠ 12 → j ≠ 14 → (mend E (st (mblm E a y) 15 14 (y 15 14 + mblr E a y))).1 15 j = mblm E a y 15 j := fun j h1 h2 => by rw [mend_15 E _ h1, st_nj _ _ _ h2]
    obtain ⟨m1, m2⟩ := med_congr (hm 10 (by decide) (by decide)) (hm 11 (by decide) (by decide)) (hm 13 (by decide) (by decide))
    have ex : krh E a x 5 = ldry E 0 a x 5 := by
      rw [krh, kend_lo E _ (by decide) (by decide), st_ne _ _ _ (by decide)]
    refine ⟨?_, ?_⟩
    · show mdh E a y 15 10 = krh E a x 5 0
      rw [mdh, m1, ex]
      exact d2.1
    · show mdh E a y 15 13 = krh E a x 5 1
      rw [mdh, m2, ex]
      exact d2.2
theorem rest_eq {E : Ev} (hE : EO E) (hn : eNb E 0 = eNb E 3) {ns : Nat} {x y : Mem} (h : RB E ns x y) (hf : FR 0 x y) : RB E ns (kend E (lrst E 0 x)).1 (mend E (mrst E y)).1 ∧ FR 0 (kend E (lrst E 0 x)).1 (mend E (mrst E y)).1 ∧ (mend E (mrst E y)).2 = (kend E (lrst E 0 x)).2 := by
  obtain ⟨hb, hcr, ha, hs, h12, h14, hst⟩ := h
  have hn6 := hE.2.2.2.2.1 3 (by decide)
  have lo : ∀ q, q < 100 → lrst E 0 x q = x q := fun q h1 => lrst_lo E x h1
  have lb : ∀ b, b < 10 → lrst E 0 x (bo 0 b) = x (bo 0 b) := fun b hb => lrs_bo E x hb _ (by have := hE.2.2.2.2.1 0 (by decide); omega)
  have ml : ∀ q, q ≠ 17 → q ≠ 20 → mrst E y q = y q := fun q h1 h2 => mrs_ne E y h1 h2 _
  have r1 : RB E ns (lrst E 0 x) (mrst E y) := by
    refine ⟨?_, fun b h1 => ?_, fun b h1 => ?_, hs.mono (lo 1 (by decide)) (fun j hj => by rw [ml 15 (by decide) (by decide)]), ?_, ?_, ?_, ?_, fun t ht => ?_⟩
    · have := rst_eq hE (i := 0) (by decide) hn hb hs (eNb E 3) (Nat.le_refl _)
      unfold lrst mrst
      rw [hn]
      exact this
    · rw [ml 18 (by decide) (by decide), lb b (by omega)]; exact hcr b h1
    · rw [ml 19 (by decide) (by decide), lb b (by omega)]; exact ha b h1
    · rw [ml 15 (by decide) (by decide), lo 0 (by decide)]; exact h12
    · rw [ml 15 (by decide) (by decide), lo 0 (by decide)]; exact h14
    · rw [lo 2 (by decide)]; exact hst.1
    · rw [ml 15 (by decide) (by decide)]; exact hst.2.1
    · rw [ml 21 (by decide) (by decide), ml 22 (by decide) (by decide), lo 3 (by decide), lo 4 (by decide)]; exact hst.2.2 t ht
  obtain ⟨r2, r3⟩ := kend_eq hE hn r1
  refine ⟨r2, ⟨?_, ?_⟩, r3⟩
  · show _ = (kend E (lrst E 0 x)).1 5 0
    rw [mend_15 E _ (by decide), kend_lo E _ (by decide) (by decide), ml 15 (by decide) (by decide), lo 5 (by decide)]
    exact hf.1
  · show _ = (kend E (lrst E 0 x)).1 5 1
    rw [mend_15 E _ (by decide), kend_lo E _ (by decide) (by decide), ml 15 (by decide) (by decide), lo 5 (by decide)]
    exact hf.2
theorem imx_le {p q a : Int32} : imx p q ≤ a ↔ p ≤ a ∧ q ≤ a := by
  unfold imx
  by_cases h : p < q
  · rw [if_pos h]
    exact ⟨fun k => ⟨Int32.le_trans (Int32.le_of_lt h) k, k⟩, fun k => k.2⟩
  · rw [if_neg h]
    exact ⟨fun k => ⟨k, Int32.le_trans (Int32.not_lt.mp h) k⟩, fun k => k.1⟩
theorem lga_le {E : Ev} {x : Mem} {i : Nat} {a : Int32} (h0 : 0 ≤ a) : ∀ t, lga E x i t ≤ a ↔ ∀ b, b < t → lavg E x i b ≤ a
  | 0 => ⟨fun _ b hb => absurd hb (by omega), fun _ => h0⟩
  | t + 1 => by
    show imx (lga E x i t) (lavg E x i t) ≤ a ↔ _
    rw [imx_le, lga_le h0 t]
    constructor
    · intro h b hb
      by_cases e : b = t
      · subst e; exact h.2
      · exact h.1 b (by omega)
    · intro h
      exact ⟨fun b hb => h b (by omega), h t (by omega)⟩
theorem mwi_max (E : Ev) (y : Mem) : ∀ t, 0 < t → ∀ b, b < t → mavg E y b ≤ mavg E y (mwi E y t)
  | 0, h, _, _ => absurd h (by decide)
  | t + 1, _, b, hb => by
    by_cases h0 : t = 0
    · subst h0
      obtain rfl : b = 0 := by omega
      exact Int32.le_refl _
    · have ih := mwi_max E y t (by omega)
      simp only [mwi]
      rw [if_neg h0]
      by_cases c : mavg E y t ≤ mavg E y (mwi E y t)
      · rw [if_pos c]
        by_cases e : b = t
        · subst e; exact c
        · exact ih b (by omega)
      · rw [if_neg c]
        by_cases e : b = t
        · subst e; exact Int32.le_refl _
        · exact Int32.le_trans (ih b (by omega)) (Int32.le_of_lt (Int32.not_le.mp c))
theorem top_le {E : Ev} (hE : EO E) {i : Nat} (hn : eNb E i = eNb E 3) {x y : Mem} (h : BR E i x y) (h0 : eNb E 3 ≠ 0) {a : Int32} (ha : 0 ≤ a) : mavg E y (mwi E y (eNb E 3)) ≤ a ↔ lga E x i (eNb E i) ≤ a := by
  rw [lga_le ha, hn]
  constructor
  · intro q b hb
    rw [← avg_eq hE h hb]
    exact Int32.le_trans (mwi_max E y _ (by omega) b hb) q
  · intro q
    have hm := mwi_lt E y (eNb E 3) (by omega)
    rw [avg_eq hE h hm]
    exact q _ hm
theorem wet_eq {E : Ev} (hE : EO E) {i : Nat} (hn : eNb E i = eNb E 3) {x y : Mem} (h : BR E i x y) {a : Int32} (ha : 0 ≤ a) : mwt E y a = iwt E x i a := by
  unfold mwt iwt
  by_cases h0 : eNb E 3 = 0
  · rw [if_pos h0, if_pos]
    rw [lga_le ha, hn]
    intro b hb
    omega
  · rw [if_neg h0]
    by_cases c : lga E x i (eNb E i) ≤ a
    · rw [if_pos c, if_pos ((top_le hE hn h h0 ha).mpr c)]
    · rw [if_neg c, if_neg (fun q => c ((top_le hE hn h h0 ha).mp q))]
theorem cs_eq {E : Ev} (hE : EO E) (hn : eNb E 0 = eNb E 3) {ns : Nat} {x y : Mem} (h : BR E 0 x y) (hst : ST ns x y) (hth : ∀ t, t < ns → 0 ≤ x 3 t) : mcsx E y ns = kcs E x ns := by
  have hn6 := hE.2.2.2.2.1 3 (by decide)
  unfold mcsx kcs
  by_cases h0 : eNb E 3 = 0
  · rw [if_pos h0, if_pos]
    rw [hn, h0]
    rfl
  · rw [if_neg h0, if_neg (by rw [hn]; exact nI_ne0 (by omega) (by omega))]
    have : ∀ t, t ≤ ns → mss E y t = sst x (lga E x 0 (eNb E 0)) t := by
      intro t
      induction t with
      | zero => intro _; rfl
      | succ t ih =>
        intro ht
        simp only [mss, sst]
        rw [ih (by omega), (hst.2.2 t (by omega)).1]
        have e := top_le hE hn h h0 (hth t (by omega))
        by_cases c : x 3 t < lga E x 0 (eNb E 0)
        · rw [if_pos c, if_pos (Int32.not_le.mp (fun q => absurd (Int32.lt_of_lt_of_le c (e.mp q)) Int32.lt_irrefl))]
        · rw [if_neg c, if_neg (fun q => absurd (Int32.lt_of_lt_of_le q (e.mpr (Int32.not_lt.mp c))) Int32.lt_irrefl)]
    exact this ns (Nat.le_refl _)
theorem si_eq {E : Ev} (hE : EO E) (hn : eNb E 0 = eNb E 3) {ns : Nat} (h8 : ns ≤ 8) {x y : Mem} (h : BR E 0 x y) (hs : SR x y) (hst : ST ns x y) (hth : ∀ t, t < ns → 0 ≤ x 3 t) : msi E y ns = ksi E x ns := by
  have e := cs_eq hE hn h hst hth
  unfold msi ksi sinl
  by_cases c : mcsx E y ns = -1000005
  · rw [if_pos c, ← e, c, if_pos (by decide)]
    exact hs.2.2.2.2.1
  · obtain ⟨q, hq, hqe⟩ := mcsx_ix c
    rw [if_neg c, ← e, hqe, if_neg (nI_pos (by omega)), if_neg (show ¬ (8 : Int32) ≤ nI q from nI_ge (a := q) (b := 8) (by omega) (by omega)), nI_clamp (by omega)]
    exact (hst.2.2 q hq).2
theorem run_eq {E : Ev} (hE : EO E) (hn : eNb E 0 = eNb E 3) {ns : Nat} (h8 : ns ≤ 8) {a : Int32} (ha : 0 ≤ a) : ∀ (n : Nat) (x y : Mem), RB E ns x y → FR 0 x y → ¬ x 1 2 = 0 → (∀ t, t < ns → 0 ≤ x 3 t) → RB E ns (krs E ns a n x).1 (mrn E ns a n y).1 ∧ FR 0 (krs E ns a n x).1 (mrn E ns a n y).1 ∧ (mrn E ns a n y).2 = (krs E ns a n x).2
  | 0, x, y, h, hf, _, _ => ⟨h, hf, rfl⟩
  | n + 1, x, y, h, hf, hc, hth => by
    simp only [mrn, krs]
    rw [wet_eq hE hn h.1 ha, si_eq hE hn h8 h.1 h.2.2.2.1 h.2.2.2.2.2.2 hth]
    by_cases c : iwt E x 0 a = 0
    · rw [if_pos c, if_pos c]
      exact ⟨h, hf, rfl⟩
    · rw [if_neg c, if_neg c]
      obtain ⟨r1, r2, -⟩ := hour_eq hE hn h hf hc (ksi E x ns)
      obtain ⟨i1, i2, i3⟩ := run_eq hE hn h8 ha n _ _ r1 r2 (by rw [krh_lo E _ _ (by decide) (by decide) (by decide)]; exact hc) (fun t ht => by rw [krh_lo E _ _ (by decide) (by decide) (by decide)]; exact hth t ht)
      exact ⟨i1, i2, by rw [i3]⟩
theorem dryN_eq {E : Ev} (hE : EO E) (hn : eNb E 0 = eNb E 3) {ns : Nat} {x y : Mem} (h : RB E ns x y) (hf : FR 0 x y) (hc : ¬ x 1 2 = 0) : ∀ t, RB E ns (kdp E x t).1 (mdp E y t).1 ∧ FR 0 (kdp E x t).1 (mdp E y t).1 ∧ (mdp E y t).2 = (kdp E x t).2 ∧ (kdp E x t).1 1 = x 1
  | 0 => ⟨h, hf, rfl, rfl⟩
  | t + 1 => by
    obtain ⟨i1, i2, i3, i4⟩ := dryN_eq hE hn h hf hc t
    simp only [mdp, kdp]
    rw [i1.2.2.2.1.2.2.2.2.1]
    obtain ⟨r1, r2, r3⟩ := hour_eq hE hn i1 i2 (by rw [i4]; exact hc) ((kdp E x t).1 1 4)
    exact ⟨r1, r2, by rw [i3, r3], by rw [krh_lo E _ _ (by decide) (by decide) (by decide)]; exact i4⟩
theorem restN_eq {E : Ev} (hE : EO E) (hn : eNb E 0 = eNb E 3) {ns : Nat} {x y : Mem} (h : RB E ns x y) (hf : FR 0 x y) : ∀ t, RB E ns (krp E x t).1 (mrp E y t).1 ∧ FR 0 (krp E x t).1 (mrp E y t).1 ∧ (mrp E y t).2 = (krp E x t).2
  | 0 => ⟨h, hf, rfl⟩
  | t + 1 => by
    obtain ⟨i1, i2, i3⟩ := restN_eq hE hn h hf t
    simp only [mrp, krp]
    obtain ⟨r1, r2, r3⟩ := rest_eq hE hn i1 i2
    exact ⟨r1, r2, by rw [i3, r3]⟩

/-! calls that change: class beside model, the invariant kept -/
def sp (j j' : Nat) : Prop := (j = 0 ∧ j' = 5) ∨ (j = 1 ∧ j' = 6) ∨ (j = 2 ∧ j' = 7) ∨ (j = 3 ∧ j' = 8) ∨ (j = 4 ∧ j' = 9) ∨ (j = 5 ∧ j' = 11)
theorem SR.at {x y : Mem} (h : SR x y) {j j' : Nat} (hj : sp j j') : y 15 j' = x 1 j := by
  obtain ⟨h1, h2, h3, h4, h5, h6⟩ := h
  rcases hj with ⟨rfl, rfl⟩ | ⟨rfl, rfl⟩ | ⟨rfl, rfl⟩ | ⟨rfl, rfl⟩ | ⟨rfl, rfl⟩ | ⟨rfl, rfl⟩ <;> assumption
theorem SR.set {x y : Mem} (h : SR x y) (a : Int32) {j j' : Nat} (hj : sp j j') : SR (st x 1 j a) (st y 15 j' a) := by
  obtain ⟨h1, h2, h3, h4, h5, h6⟩ := h
  rcases hj with ⟨rfl, rfl⟩ | ⟨rfl, rfl⟩ | ⟨rfl, rfl⟩ | ⟨rfl, rfl⟩ | ⟨rfl, rfl⟩ | ⟨rfl, rfl⟩ <;> refine ⟨?_, ?_, ?_, ?_, ?_, ?_⟩ <;> first | rw [st_at, st_at] | (rw [st_nj _ _ _ (by decide), st_nj _ _ _ (by decide)]; assumption)
theorem sp_b {j j' : Nat} (h : sp j j') : j' ≠ 12 ∧ j' ≠ 14 ∧ j' ≠ 16 ∧ j' ≠ 10 ∧ j' ≠ 13 := by
  unfold sp at h
  omega
theorem sb_0 {v : Mem} {a : Int32} (h : out a 1 250 = 0) (hs : SB v) : SB (st v 1 0 a) := by
  obtain ⟨h1, h2, h3, h4, h5⟩ := hs
  exact ⟨by rw [st_at]; exact out_bd h, by rw [st_nj _ _ _ (by decide)]; exact h2, by rw [st_nj _ _ _ (by decide)]; exact h3, by rw [st_nj _ _ _ (by decide)]; exact h4, by rw [st_nj _ _ _ (by decide)]; exact h5⟩
theorem sb_1 {v : Mem} {a : Int32} (h : out a 1 500 = 0) (hs : SB v) : SB (st v 1 1 a) := by
  obtain ⟨h1, h2, h3, h4, h5⟩ := hs
  exact ⟨by rw [st_nj _ _ _ (by decide)]; exact h1, by rw [st_at]; exact out_bd h, by rw [st_nj _ _ _ (by decide)]; exact h3, by rw [st_nj _ _ _ (by decide)]; exact h4, by rw [st_nj _ _ _ (by decide)]; exact h5⟩
theorem sb_2 {v : Mem} {a : Int32} (h : out a 1 10000 = 0) (hs : SB v) : SB (st v 1 2 a) := by
  obtain ⟨h1, h2, h3, h4, h5⟩ := hs
  exact ⟨by rw [st_nj _ _ _ (by decide)]; exact h1, by rw [st_nj _ _ _ (by decide)]; exact h2, by rw [st_at]; exact out_bd h, by rw [st_nj _ _ _ (by decide)]; exact h4, by rw [st_nj _ _ _ (by decide)]; exact h5⟩
theorem sb_3 {v : Mem} {a : Int32} (h : out a 20 900 = 0) (hs : SB v) : SB (st v 1 3 a) := by
  obtain ⟨h1, h2, h3, h4, h5⟩ := hs
  exact ⟨by rw [st_nj _ _ _ (by decide)]; exact h1, by rw [st_nj _ _ _ (by decide)]; exact h2, by rw [st_nj _ _ _ (by decide)]; exact h3, by rw [st_at]; exact out_bd h, by rw [st_nj _ _ _ (by decide)]; exact h5⟩
theorem sb_4 {v : Mem} {a : Int32} (h : out a 0 300 = 0) (hs : SB v) : SB (st v 1 4 a) := by
  obtain ⟨h1, h2, h3, h4, h5⟩ := hs
  exact ⟨by rw [st_nj _ _ _ (by decide)]; exact h1, by rw [st_nj _ _ _ (by decide)]; exact h2, by rw [st_nj _ _ _ (by decide)]; exact h3, by rw [st_nj _ _ _ (by decide)]; exact h4, by rw [st_at]; exact out_bd h⟩
theorem sb_5 {v : Mem} {a : Int32} (h : out a 0 48 = 0) (hs : SB v) : SB (st v 1 5 a) := by
  obtain ⟨h1, h2, h3, h4, h5⟩ := hs
  exact ⟨by rw [st_nj _ _ _ (by decide)]; exact h1, by rw [st_nj _ _ _ (by decide)]; exact h2, by rw [st_nj _ _ _ (by decide)]; exact h3, by rw [st_nj _ _ _ (by decide)]; exact h4, by rw [st_nj _ _ _ (by decide)]; exact h5⟩
theorem o_set {E : Ev} {ns : Nat} {v : Mem} (h : INV E ns v) {j j' : Nat} (hj : sp j j') {a lo hi : Int32} (hsb : out a lo hi = 0 → SB v → SB (st v 1 j a)) : msr (ksm v j a lo hi) j' a lo hi = ksr v j a lo hi ∧ INV E ns (msm (ksm v j a lo hi) j' a lo hi) := by
  have h' := h
  obtain ⟨hE, hX, hN, h8, hr, hf, hp⟩ := h'
  unfold msr ksm ksr msm
  rcases out_btw a lo hi with ⟨h1, h2⟩ | ⟨h1, h2⟩
  · rw [if_pos h1, if_pos h1, if_neg h2, if_neg h2]
    obtain ⟨b1, b2, b3, b4, b5⟩ := sp_b hj
    refine ⟨?_, ?_⟩
    · rw [st_ne _ _ _ (by decide)]
      exact hr.2.2.2.1.at hj
    · obtain ⟨r, f⟩ := h.split (v1 := st v 1 j a) (fun q hq => st_ne _ _ _ (by omega))
      obtain ⟨r1, r2, r3, r4, r5, r6, r7, r8, r9⟩ := id r
      refine INV.next hE hX hN h8 (v1 := st v 1 j a) ?_ ?_ ?_ (fun q hq => st_ne _ _ _ (by omega))
      · refine RB.gen hE r (fun b _ => st_ne _ _ _ (ne_al (by decide))) (fun b _ => st_ne _ _ _ (ne_bl (by decide))) (fun q _ => by rw [st_ne _ _ _ (by decide)]) (fun q _ => by rw [st_ne _ _ _ (by decide)]) (fun q _ => by rw [st_ne _ _ _ (by decide)]) (r4.set a hj) ?_ ?_ ⟨?_, ?_, fun t ht => ?_⟩
        · rw [st_nj _ _ _ (Ne.symm b1), st_ne v _ _ (show 0 ≠ 1 by decide)]; exact r5
        · rw [st_nj _ _ _ (Ne.symm b2), st_ne v _ _ (show 0 ≠ 1 by decide)]; exact r6
        · rw [st_ne _ _ _ (by decide)]; exact r7
        · rw [st_nj _ _ _ (Ne.symm b3)]; exact r8
        · rw [st_ne _ _ _ (show 21 ≠ 15 by decide), st_ne _ _ _ (show 22 ≠ 15 by decide), st_ne v _ _ (show 3 ≠ 1 by decide), st_ne v _ _ (show 4 ≠ 1 by decide)]; exact r9 t ht
      · refine ⟨?_, ?_⟩
        · rw [st_nj _ _ _ (Ne.symm b4), st_ne v _ _ (show 5 + 0 ≠ 1 by decide)]; exact f.1
        · rw [st_nj _ _ _ (Ne.symm b5), st_ne v _ _ (show 5 + 0 ≠ 1 by decide)]; exact f.2
      · obtain ⟨p1, p2, p3, p4⟩ := hp
        refine ⟨hsb h1 p1, fun t ht => ?_, ?_, p4.keep (fun b _ => st_ne _ _ _ (ne_al (by decide)))⟩
        · rw [st_ne _ _ _ (show 3 ≠ 1 by decide), st_ne _ _ _ (show 4 ≠ 1 by decide)]; exact p2 t ht
        · rw [st_ne _ _ _ (by decide)]; exact p3
  · rw [if_neg h1, if_neg h1, if_pos h2, if_pos h2]
    exact ⟨rfl, h⟩
theorem o_fan {E : Ev} {ns : Nat} {v : Mem} (h : INV E ns v) {a : Int32} (ha : isB a) : (if st v 5 0 a 15 10 = a then (0 : Int32) else 1) = (if v 5 0 = a then 0 else 1) ∧ INV E ns (st (st v 5 0 a) 15 10 a) := by
  have h' := h
  obtain ⟨hE, hX, hN, h8, hr, hf, hp⟩ := h'
  refine ⟨?_, ?_⟩
  · rw [st_ne _ _ _ (by decide), show v 15 10 = v 5 0 from hf.1]
  · obtain ⟨r, f⟩ := h.split (v1 := st v 5 0 a) (fun q hq => st_ne _ _ _ (by omega))
    obtain ⟨r1, r2, r3, r4, r5, r6, r7, r8, r9⟩ := id r
    refine INV.next hE hX hN h8 (v1 := st v 5 0 a) ?_ ?_ ?_ (fun q hq => st_ne _ _ _ (by omega))
    · refine RB.gen hE r (fun b _ => st_ne _ _ _ (ne_al (by decide))) (fun b _ => st_ne _ _ _ (ne_bl (by decide))) (fun q _ => by rw [st_ne _ _ _ (by decide)]) (fun q _ => by rw [st_ne _ _ _ (by decide)]) (fun q _ => by rw [st_ne _ _ _ (by decide)]) (r4.mono (st_ne _ _ _ (by decide)) (fun j hj => st_nj _ _ _ (by omega))) ?_ ?_ ⟨?_, ?_, fun t ht => ?_⟩
      · rw [st_nj _ _ _ (by decide), st_ne v _ _ (show 0 ≠ 5 by decide)]; exact r5
      · rw [st_nj _ _ _ (by decide), st_ne v _ _ (show 0 ≠ 5 by decide)]; exact r6
      · rw [st_ne _ _ _ (by decide)]; exact r7
      · rw [st_nj _ _ _ (by decide)]; exact r8
      · rw [st_ne _ _ _ (show 21 ≠ 15 by decide), st_ne _ _ _ (show 22 ≠ 15 by decide), st_ne v _ _ (show 3 ≠ 5 by decide), st_ne v _ _ (show 4 ≠ 5 by decide)]; exact r9 t ht
    · refine ⟨?_, ?_⟩
      · show st (st v 5 0 a) 15 10 a 15 10 = st v 5 0 a 5 0
        rw [st_at, st_at]
      · show st (st v 5 0 a) 15 10 a 15 13 = st v 5 0 a 5 1
        rw [st_nj _ _ _ (show 13 ≠ 10 by decide), st_nj v 5 _ (show 1 ≠ 0 by decide)]; exact f.2
    · obtain ⟨p1, p2, p3, p4⟩ := hp
      refine ⟨?_, fun t ht => ?_, ?_, p4.keep (fun b _ => st_ne _ _ _ (ne_al (by decide)))⟩
      · unfold SB; rw [st_ne _ _ _ (by decide)]; exact p1
      · rw [st_ne _ _ _ (show 3 ≠ 5 by decide), st_ne _ _ _ (show 4 ≠ 5 by decide)]; exact p2 t ht
      · rw [st_at]; exact ha
theorem o_sl {E : Ev} {ns : Nat} {v : Mem} (h : INV E ns v) (a b d : Int32) : mslr E (kslm E v a b d) a b d = kslr E v a b d ∧ INV E ns (mslm E (kslm E v a b d) a b d) := by
  have h' := h
  obtain ⟨hE, hX, hN, h8, hr, hf, hp⟩ := h'
  have hn6 := hE.2.2.2.2.1 3 (by decide)
  unfold mslr kslr mslm kslm mcl
  rcases has3 hE hN a with ⟨h1, h2⟩ | ⟨j, hj, rfl, h1, h2⟩
  · rw [if_pos h1, if_pos h1, if_pos h2, if_neg (by decide), if_neg (by decide)]
    exact ⟨rfl, h⟩
  · have hl := hE.2.2.2.2.2.1 j (by omega)
    rw [if_neg h1, if_neg h1, if_neg h2, nI_clamp (by omega)]
    rcases ix3 b (n := eLn E j) (by omega) with ⟨c, q⟩ | ⟨k, hk, rfl, c0, c1, c2, q⟩
    · have z1 : ¬ (0 : Int32) ≤ -1000002 := by decide
      simp only [if_pos q, if_neg z1]
      rcases c with c | ⟨c, c2⟩
      · simp only [if_pos c]; exact ⟨trivial, h⟩
      · have c3 : ¬ b < nI (eLn E j) := fun q => absurd (Int32.lt_of_lt_of_le q c2) Int32.lt_irrefl
        simp only [if_neg c, if_neg c3]; exact ⟨trivial, h⟩
    · have q1 : ¬ btw (nI k) 0 (nI (eLn E j) - 1) = 0 := by rw [q]; decide
      have z0 : (0 : Int32) ≤ 0 := by decide
      simp only [if_neg q1, if_pos z0, if_neg c0, if_pos c2]
      rw [nI_clamp (by omega)]
      rcases out_btw d 0 2000 with ⟨g1, g2⟩ | ⟨g1, g2⟩
      · rw [if_pos g1, if_pos g1, if_neg g2, if_neg g2]
        refine ⟨?_, ?_⟩
        · rw [st_ne _ _ _ (Ne.symm (ne_al (by decide)))]
          exact hr.1 j hj k hk
        · obtain ⟨r, f⟩ := h.split (v1 := st v (ba 0 j) k d) (fun q hq => st_ne _ _ _ (Ne.symm (ne_al (by omega))))
          obtain ⟨r1, r2, r3, r4, r5, r6, r7, r8, r9⟩ := id r
          have lo : ∀ q, q < 100 → st v (ba 0 j) k d q = v q := fun q hq => st_ne _ _ _ (Ne.symm (ne_al hq))
          have mo : ∀ q, q ≠ 17 → st (st v (ba 0 j) k d) 17 (9 * j + k) d q = st v (ba 0 j) k d q := fun q hq => st_ne _ _ _ hq
          refine INV.next hE hX hN h8 (v1 := st v (ba 0 j) k d) ?_ ?_ ?_ (fun q hq => st_ne _ _ _ (by omega))
          · refine ⟨fun b hb k' hk' => ?_, fun b hb => ?_, fun b hb => ?_, ?_, ?_, ?_, ?_, ?_, fun t ht => ?_⟩
            · have hlb := hE.2.2.2.2.2.1 b (by omega)
              by_cases e : b = j
              · subst e
                by_cases e2 : k' = k
                · subst e2
                  rw [st_at, st_at]
                · rw [st_nj _ _ _ (by omega), st_nj v _ _ e2]
                  exact r1 b hb k' hk'
              · rw [st_nj _ _ _ (by omega), st_ne v _ _ (fun q => e (ba_inj (by omega) (by omega) q).2)]
                exact r1 b hb k' hk'
            · rw [mo 18 (by decide), st_ne v _ _ (Ne.symm (ne_ab (by omega) (by omega)))]; exact r2 b hb
            · rw [mo 19 (by decide), st_ne v _ _ (Ne.symm (ne_ab (by omega) (by omega)))]; exact r3 b hb
            · exact (r4.x (lo 1 (by decide))).y (mo 15 (by decide))
            · rw [mo 15 (by decide), lo 0 (by decide)]; exact r5
            · rw [mo 15 (by decide), lo 0 (by decide)]; exact r6
            · rw [lo 2 (by decide)]; exact r7
            · rw [mo 15 (by decide)]; exact r8
            · rw [mo 21 (by decide), mo 22 (by decide), lo 3 (by decide), lo 4 (by decide)]; exact r9 t ht
          · refine ⟨?_, ?_⟩
            · rw [mo 15 (by decide), lo (5 + 0) (by decide)]; exact f.1
            · rw [mo 15 (by decide), lo (5 + 0) (by decide)]; exact f.2
          · obtain ⟨p1, p2, p3, p4⟩ := hp
            refine ⟨?_, fun t ht => ?_, ?_, fun b hb k' hk' => ?_⟩
            · unfold SB; rw [lo 1 (by decide)]; exact p1
            · rw [lo 3 (by decide), lo 4 (by decide)]; exact p2 t ht
            · rw [lo 5 (by decide)]; exact p3
            · have hb3 : b < eNb E 3 := by rw [← hN.1]; exact hb
              by_cases e : b = j
              · subst e
                by_cases e2 : k' = k
                · subst e2
                  rw [st_at]
                  exact out_bd g1
                · rw [st_nj _ _ _ e2]
                  exact p4 b hb k' hk'
              · rw [st_ne _ _ _ (fun q => e (ba_inj (by omega) (by omega) q).2)]
                exact p4 b hb k' hk'
      · rw [if_neg g1, if_neg g1, if_pos g2, if_pos g2]
        exact ⟨rfl, h⟩
/-! hours -/
theorem krh_ph {E : Ev} (hE : EO E) {ns : Nat} {x : Mem} (h : PH E ns x) {a : Int32} (ha : bd a 0 300) : PH E ns (krh E a x) := by
  obtain ⟨p1, p2, p3, p4⟩ := h
  refine ⟨?_, fun t ht => ?_, ?_, krh_bd hE p4 p1 ha⟩
  · unfold SB; rw [krh_lo E _ _ (by decide) (by decide) (by decide)]; exact p1
  · rw [krh_lo E _ _ (by decide) (by decide) (by decide), krh_lo E _ _ (by decide) (by decide) (by decide)]; exact p2 t ht
  · rw [krh, kend_lo E _ (by decide) (by decide), st_ne _ _ _ (by decide)]
    exact isB_ldry E (i := 0) (by decide) p3
theorem krt_ph {E : Ev} (hE : EO E) {ns : Nat} {x : Mem} (h : PH E ns x) : PH E ns (kend E (lrst E 0 x)).1 := by
  obtain ⟨p1, p2, p3, p4⟩ := h
  have lo : ∀ q, q < 100 → q ≠ 0 → (kend E (lrst E 0 x)).1 q = x q := fun q h h0 => by rw [kend_lo E _ h h0, lrst_lo E _ h]
  refine ⟨?_, fun t ht => ?_, ?_, kend_bd hE (lrst_bd hE (by decide) p4 p1)⟩
  · unfold SB; rw [lo 1 (by decide) (by decide)]; exact p1
  · rw [lo 3 (by decide) (by decide), lo 4 (by decide) (by decide)]; exact p2 t ht
  · rw [lo 5 (by decide) (by decide)]; exact p3
theorem kdp_lo (E : Ev) (x : Mem) {q : Nat} (h : q < 100) (h0 : q ≠ 0) (h5 : q ≠ 5) : ∀ t, (kdp E x t).1 q = x q
  | 0 => rfl
  | t + 1 => by
    show krh E _ (kdp E x t).1 q = x q
    rw [krh_lo E _ _ h h0 h5, kdp_lo E x h h0 h5 t]
theorem kdp_ph {E : Ev} (hE : EO E) {ns : Nat} {x : Mem} (h : PH E ns x) : ∀ t, PH E ns (kdp E x t).1
  | 0 => h
  | t + 1 => by
    have ih := kdp_ph hE h t
    exact krh_ph hE ih ih.1.2.2.2.2
theorem krp_lo (E : Ev) (x : Mem) {q : Nat} (h : q < 100) (h0 : q ≠ 0) : ∀ t, (krp E x t).1 q = x q
  | 0 => rfl
  | t + 1 => by
    show (kend E (lrst E 0 (krp E x t).1)).1 q = x q
    rw [kend_lo E _ h h0, lrst_lo E _ h, krp_lo E x h h0 t]
theorem krp_ph {E : Ev} (hE : EO E) {ns : Nat} {x : Mem} (h : PH E ns x) : ∀ t, PH E ns (krp E x t).1
  | 0 => h
  | t + 1 => krt_ph hE (krp_ph hE h t)
theorem mdh_o (E : Ev) (a : Int32) (y : Mem) {q : Nat} (hq : cls q) : mdh E a y q = y q := by
  rw [mdh, med_ne _ (by omega), mend_ne E _ (by omega) (by omega), st_ne _ _ _ (by omega), mblm_ne E _ _ (by omega) (by omega) (by omega)]
theorem mdp_o (E : Ev) (y : Mem) {q : Nat} (hq : cls q) : ∀ t, (mdp E y t).1 q = y q
  | 0 => rfl
  | t + 1 => by
    show mdh E _ (mdp E y t).1 q = y q
    rw [mdh_o E _ _ hq, mdp_o E y hq t]
theorem mrp_o (E : Ev) (y : Mem) {q : Nat} (hq : cls q) : ∀ t, (mrp E y t).1 q = y q
  | 0 => rfl
  | t + 1 => by
    show (mend E (mrst E (mrp E y t).1)).1 q = y q
    rw [mend_ne E _ (by omega) (by omega), mrst, mrs_ne E _ (by omega) (by omega), mrp_o E y hq t]
theorem o_dry {E : Ev} {ns : Nat} {v : Mem} (h : INV E ns v) (a : Int32) : mdr E (kdm E v a) a = kdr E v a ∧ INV E ns (mdm E (kdm E v a) a) := by
  have h' := h
  obtain ⟨hE, hX, hN, h8, hr, hf, hp⟩ := h'
  unfold mdr kdm kdr mdm
  rcases out_btw a 1 200 with ⟨h1, h2⟩ | ⟨h1, h2⟩
  · rw [if_pos h1, if_pos h1, if_neg h2, if_neg h2]
    generalize a.toNatClampNeg = N
    obtain ⟨r, f⟩ := h.split (v1 := (kdp E v N).1) (fun q hq => kdp_lo E v (by omega) (by omega) (by omega) N)
    obtain ⟨d1, d2, d3, -⟩ := dryN_eq hE hN.1 r f hp.1.cap N
    exact ⟨d3, INV.next hE hX hN h8 d1 d2 (kdp_ph hE hp N) (fun q hq => mdp_o E _ hq N)⟩
  · rw [if_neg h1, if_neg h1, if_pos h2, if_pos h2]
    exact ⟨rfl, h⟩
theorem o_rest {E : Ev} {ns : Nat} {v : Mem} (h : INV E ns v) (a : Int32) : mrr E (krm E v a) a = krr E v a ∧ INV E ns (mrm E (krm E v a) a) := by
  have h' := h
  obtain ⟨hE, hX, hN, h8, hr, hf, hp⟩ := h'
  unfold mrr krm krr mrm
  rcases out_btw a 1 200 with ⟨h1, h2⟩ | ⟨h1, h2⟩
  · rw [if_pos h1, if_pos h1, if_neg h2, if_neg h2]
    generalize a.toNatClampNeg = N
    obtain ⟨r, f⟩ := h.split (v1 := (krp E v N).1) (fun q hq => krp_lo E v (by omega) (by omega) N)
    obtain ⟨d1, d2, d3⟩ := restN_eq hE hN.1 r f N
    exact ⟨d3, INV.next hE hX hN h8 d1 d2 (krp_ph hE hp N) (fun q hq => mrp_o E _ hq N)⟩
  · rw [if_neg h1, if_neg h1, if_pos h2, if_pos h2]
    exact ⟨rfl, h⟩
/-! schedules -/
theorem sst_ix (v : Mem) (a : Int32) : ∀ t, sst v a t = -1000005 ∨ ∃ q, q < t ∧ sst v a t = nI q
  | 0 => Or.inl rfl
  | t + 1 => by
    simp only [sst]
    by_cases c : v 3 t < a
    · rw [if_pos c]
      rcases sst_ix v a t with h | ⟨q, hq, h⟩
      · exact Or.inl h
      · exact Or.inr ⟨q, by omega, h⟩
    · rw [if_neg c]
      exact Or.inr ⟨t, by omega, rfl⟩
theorem ksi_bd {E : Ev} {ns : Nat} (h8 : ns ≤ 8) {x : Mem} (h : PH E ns x) : bd (ksi E x ns) 0 300 := by
  obtain ⟨p1, p2, p3, p4⟩ := h
  unfold ksi sinl
  by_cases c0 : kcs E x ns < 0
  · rw [if_pos c0]; exact p1.2.2.2.2
  · rw [if_neg c0]
    by_cases c1 : 8 ≤ kcs E x ns
    · rw [if_pos c1]; exact p1.2.2.2.2
    · rw [if_neg c1]
      unfold kcs at c0 ⊢
      by_cases c2 : nI (eNb E 0) = 0
      · rw [if_pos c2] at c0; exact absurd (by decide) c0
      · rw [if_neg c2] at c0 ⊢
        rcases sst_ix x (lga E x 0 (eNb E 0)) ns with q | ⟨q, hq, e⟩
        · rw [q] at c0; exact absurd (by decide) c0
        · rw [e, nI_clamp (by omega)]
          exact (p2 q hq).2
theorem krs_lo (E : Ev) (ns : Nat) (a : Int32) {q : Nat} (h : q < 100) (h0 : q ≠ 0) (h5 : q ≠ 5) : ∀ (n : Nat) (x : Mem), (krs E ns a n x).1 q = x q
  | 0, x => rfl
  | n + 1, x => by
    simp only [krs]
    split
    · rfl
    · show (krs E ns a n _).1 q = x q
      rw [krs_lo E ns a h h0 h5 n, krh_lo E _ _ h h0 h5]
theorem krs_ph {E : Ev} (hE : EO E) {ns : Nat} (h8 : ns ≤ 8) (a : Int32) : ∀ (n : Nat) (x : Mem), PH E ns x → PH E ns (krs E ns a n x).1
  | 0, x, h => h
  | n + 1, x, h => by
    simp only [krs]
    split
    · exact h
    · exact krs_ph hE h8 a n _ (krh_ph hE h (ksi_bd h8 h))
theorem mrn_o (E : Ev) (ns : Nat) (a : Int32) {q : Nat} (hq : cls q) : ∀ (n : Nat) (y : Mem), (mrn E ns a n y).1 q = y q
  | 0, y => rfl
  | n + 1, y => by
    simp only [mrn]
    split
    · rfl
    · show (mrn E ns a n _).1 q = y q
      rw [mrn_o E ns a hq n, mdh_o E _ _ hq]
theorem o_run {E : Ev} {ns : Nat} {v : Mem} (h : INV E ns v) (a b : Int32) : msdr E (ksdm E v ns a b) ns a b = ksdr E v ns a b ∧ INV E ns (msdm E (ksdm E v ns a b) ns a b) := by
  have h' := h
  obtain ⟨hE, hX, hN, h8, hr, hf, hp⟩ := h'
  unfold msdr ksdm ksdr msdm
  rcases out_btw a 0 2000 with ⟨h1, h2⟩ | ⟨h1, h2⟩
  · rw [if_pos h1, if_pos h1, if_neg h2, if_neg h2]
    rcases out_btw b 1 200 with ⟨g1, g2⟩ | ⟨g1, g2⟩
    · rw [if_pos g1, if_pos g1, if_neg g2, if_neg g2]
      generalize b.toNatClampNeg = N
      obtain ⟨r, f⟩ := h.split (v1 := (krs E ns a N v).1) (fun q hq => krs_lo E ns a (by omega) (by omega) (by omega) N v)
      obtain ⟨d1, d2, d3⟩ := run_eq hE hN.1 h8 ((out_bd h1).nn (by decide)) N v _ r f hp.1.cap (fun t ht => (hp.2.1 t ht).1.nn (Int.le_refl _))
      exact ⟨by rw [d3], INV.next hE hX hN h8 d1 d2 (krs_ph hE h8 a N v hp) (fun q hq => mrn_o E ns a hq N _)⟩
    · rw [if_neg g1, if_neg g1, if_pos g2, if_pos g2]
      exact ⟨rfl, h⟩
  · rw [if_neg h1, if_neg h1, if_pos h2, if_pos h2]
    exact ⟨rfl, h⟩
theorem o_cl {E : Ev} {ns : Nat} {v : Mem} (h : INV E ns v) : st v 2 2 0 15 16 = v 2 2 ∧ INV E 0 (st (st v 2 2 0) 15 16 0) := by
  have h' := h
  obtain ⟨hE, hX, hN, h8, hr, hf, hp⟩ := h'
  refine ⟨?_, ?_⟩
  · rw [st_ne _ _ _ (by decide), (q_ns h).1, (q_ns h).2]
  · obtain ⟨r, f⟩ := h.split (v1 := st v 2 2 0) (fun q hq => st_ne _ _ _ (by omega))
    obtain ⟨r1, r2, r3, r4, r5, r6, r7, r8, r9⟩ := id r
    refine INV.next hE hX hN (Nat.zero_le _) (v1 := st v 2 2 0) ?_ ?_ ?_ (fun q hq => st_ne _ _ _ (by omega))
    · refine RB.gen hE r (fun b _ => st_ne _ _ _ (ne_al (by decide))) (fun b _ => st_ne _ _ _ (ne_bl (by decide))) (fun q _ => by rw [st_ne _ _ _ (by decide)]) (fun q _ => by rw [st_ne _ _ _ (by decide)]) (fun q _ => by rw [st_ne _ _ _ (by decide)]) (r4.mono (st_ne _ _ _ (by decide)) (fun j hj => st_nj _ _ _ (by omega))) ?_ ?_ ⟨?_, ?_, fun t ht => absurd ht (by omega)⟩
      · rw [st_nj _ _ _ (by decide), st_ne v _ _ (show 0 ≠ 2 by decide)]; exact r5
      · rw [st_nj _ _ _ (by decide), st_ne v _ _ (show 0 ≠ 2 by decide)]; exact r6
      · rw [st_at]; rfl
      · rw [st_at]; rfl
    · refine ⟨?_, ?_⟩
      · rw [st_nj _ _ _ (by decide), st_ne v _ _ (show 5 + 0 ≠ 2 by decide)]; exact f.1
      · rw [st_nj _ _ _ (by decide), st_ne v _ _ (show 5 + 0 ≠ 2 by decide)]; exact f.2
    · obtain ⟨p1, p2, p3, p4⟩ := hp
      refine ⟨?_, fun t ht => absurd ht (by omega), ?_, p4.keep (fun b _ => st_ne _ _ _ (ne_al (by decide)))⟩
      · unfold SB; rw [st_ne _ _ _ (by decide)]; exact p1
      · rw [st_ne _ _ _ (by decide)]; exact p3
theorem o_as {E : Ev} {ns : Nat} {v : Mem} (h : INV E ns v) (a b : Int32) : masr (kasm v ns a b) ns a b = kasr v ns a b ∧ ∃ ns', INV E ns' (masm (kasm v ns a b) ns a b) := by
  have h' := h
  obtain ⟨hE, hX, hN, h8, hr, hf, hp⟩ := h'
  obtain ⟨r1, r2, r3, r4, r5, r6, r7, r8, r9⟩ := id hr
  unfold masr kasm kasr masm
  rcases out_btw a 0 2000 with ⟨h1, h2⟩ | ⟨h1, h2⟩
  · rw [if_pos h1, if_pos h1, if_neg h2, if_neg h2]
    rcases out_btw b 0 300 with ⟨g1, g2⟩ | ⟨g1, g2⟩
    · rw [if_pos g1, if_pos g1]
      unfold sappm sappr
      by_cases c : 0 < ns ∧ ¬ a < v 3 (ns - 1)
      · have c' : 0 < ns ∧ v 21 (ns - 1) ≤ a := ⟨c.1, by rw [(r9 (ns - 1) (by omega)).1]; exact Int32.not_lt.mp c.2⟩
        rw [if_pos c, if_pos c, if_pos c', if_pos c']
        exact ⟨rfl, ns, h⟩
      · rw [if_neg c, if_neg c]
        by_cases c8 : ns < 8
        · rw [if_pos c8, if_pos c8]
          have l21 : sapp v ns a b 21 = v 21 := by unfold sapp; rw [st_ne _ _ _ (by decide), st_ne _ _ _ (by decide), st_ne _ _ _ (by decide)]
          have c' : ¬ (0 < ns ∧ sapp v ns a b 21 (ns - 1) ≤ a) := fun q => by
            rw [l21, (r9 (ns - 1) (by omega)).1] at q
            exact c ⟨q.1, Int32.not_lt.mpr q.2⟩
          rw [if_neg c', if_neg c', if_neg g2, if_neg g2, if_pos c8]
          refine ⟨rfl, ns + 1, ?_⟩
          have lo : ∀ q, q ≠ 2 → q ≠ 3 → q ≠ 4 → sapp v ns a b q = v q := fun q q2 q3 q4 => by unfold sapp; rw [st_ne _ _ _ q2, st_ne _ _ _ q4, st_ne _ _ _ q3]
          have mo : ∀ q, q ≠ 21 → q ≠ 22 → q ≠ 15 → st (st (st (sapp v ns a b) 21 ns a) 22 ns b) 15 16 (nI (ns + 1)) q = sapp v ns a b q := fun q q1 q2 q3 => by rw [st_ne _ _ _ q3, st_ne _ _ _ q2, st_ne _ _ _ q1]
          have m15 : ∀ j, j ≠ 16 → st (st (st (sapp v ns a b) 21 ns a) 22 ns b) 15 16 (nI (ns + 1)) 15 j = v 15 j := fun j hj => by rw [st_nj _ _ _ hj, st_ne _ _ _ (by decide), st_ne _ _ _ (by decide), lo 15 (by decide) (by decide) (by decide)]
          have x3 : ∀ t, t ≠ ns → sapp v ns a b 3 t = v 3 t := fun t ht => by unfold sapp; rw [st_ne _ _ _ (by decide), st_ne _ _ _ (by decide), st_nj _ _ _ ht]
          have x4 : ∀ t, t ≠ ns → sapp v ns a b 4 t = v 4 t := fun t ht => by unfold sapp; rw [st_ne _ _ _ (by decide), st_nj _ _ _ ht, st_ne _ _ _ (by decide)]
          have x3n : sapp v ns a b 3 ns = a := by unfold sapp; rw [st_ne _ _ _ (by decide), st_ne _ _ _ (by decide), st_at]
          have x4n : sapp v ns a b 4 ns = b := by unfold sapp; rw [st_ne _ _ _ (by decide), st_at]
          refine INV.next hE hX hN (by omega) (v1 := sapp v ns a b) ?_ ?_ ?_ (fun q hq => mo q (by omega) (by omega) (by omega))
          · refine RB.gen hE hr (fun b _ => lo _ (ne_al (by decide)) (ne_al (by decide)) (ne_al (by decide))) (fun b _ => lo _ (ne_bl (by decide)) (ne_bl (by decide)) (ne_bl (by decide))) (fun q _ => by rw [mo 17 (by decide) (by decide) (by decide), lo 17 (by decide) (by decide) (by decide)]) (fun q _ => by rw [mo 18 (by decide) (by decide) (by decide), lo 18 (by decide) (by decide) (by decide)]) (fun q _ => by rw [mo 19 (by decide) (by decide) (by decide), lo 19 (by decide) (by decide) (by decide)]) (r4.mono (lo 1 (by decide) (by decide) (by decide)) (fun j hj => m15 j (by omega))) ?_ ?_ ⟨?_, ?_, fun t ht => ?_⟩
            · rw [m15 12 (by decide), lo 0 (by decide) (by decide) (by decide)]; exact r5
            · rw [m15 14 (by decide), lo 0 (by decide) (by decide) (by decide)]; exact r6
            · unfold sapp; rw [st_at]
            · rw [st_at]
            · rw [st_ne _ _ _ (show 21 ≠ 15 by decide), st_ne _ _ _ (show 21 ≠ 22 by decide), st_ne _ _ _ (show 22 ≠ 15 by decide)]
              by_cases e : t = ns
              · subst e
                rw [st_at, st_at, x3n, x4n]
                exact ⟨rfl, rfl⟩
              · rw [st_nj _ _ _ e, st_nj _ _ _ e, st_ne _ _ _ (show 22 ≠ 21 by decide), x3 t e, x4 t e, l21, lo 22 (by decide) (by decide) (by decide)]
                exact r9 t (by omega)
          · refine ⟨?_, ?_⟩
            · rw [m15 10 (by decide), lo (5 + 0) (by decide) (by decide) (by decide)]; exact hf.1
            · rw [m15 13 (by decide), lo (5 + 0) (by decide) (by decide) (by decide)]; exact hf.2
          · obtain ⟨p1, p2, p3, p4⟩ := hp
            refine ⟨?_, fun t ht => ?_, ?_, p4.keep (fun b _ => lo _ (ne_al (by decide)) (ne_al (by decide)) (ne_al (by decide)))⟩
            · unfold SB; rw [lo 1 (by decide) (by decide) (by decide)]; exact p1
            · by_cases e : t = ns
              · subst e
                rw [x3n, x4n]
                exact ⟨out_bd h1, out_bd g1⟩
              · rw [x3 t e, x4 t e]; exact p2 t (by omega)
            · rw [lo 5 (by decide) (by decide) (by decide)]; exact p3
        · have c' : ¬ (0 < ns ∧ v 21 (ns - 1) ≤ a) := fun q => by
            rw [(r9 (ns - 1) (by omega)).1] at q
            exact c ⟨q.1, Int32.not_lt.mpr q.2⟩
          rw [if_neg c8, if_neg c8, if_neg c', if_neg c', if_neg g2, if_neg g2, if_neg c8]
          exact ⟨rfl, ns, h⟩
    · rw [if_neg g1, if_neg g1, if_pos g2, if_pos g2]
      refine ⟨?_, ns, ?_⟩
      · split <;> rfl
      · split <;> exact h
  · rw [if_neg h1, if_neg h1, if_pos h2, if_pos h2]
    exact ⟨rfl, ns, h⟩

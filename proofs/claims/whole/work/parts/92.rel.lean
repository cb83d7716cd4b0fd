/-! the class's memory x (at load i) beside the model's y -/
theorem psum_congr {f g : Nat → Int32} : ∀ {n : Nat}, (∀ k, k < n → f k = g k) → psum f n = psum g n
  | 0, _ => rfl
  | n + 1, h => by
    simp only [psum]
    rw [psum_congr (fun k hk => h k (by omega)), h n (by omega)]
theorem mmx_pmx {f g : Nat → Int32} : ∀ {n : Nat}, (∀ k, k < n → f k = g k) → mmx f n = pmx g n
  | 0, _ => rfl
  | n + 1, h => by
    simp only [mmx, pmx, imx]
    rw [mmx_pmx (fun k hk => h k (by omega)), h n (by omega)]
    by_cases c : pmx g n < g n
    · rw [if_pos c, if_neg (fun q => absurd (Int32.lt_of_lt_of_le c q) Int32.lt_irrefl)]
    · rw [if_neg c, if_pos (Int32.not_lt.mp c)]
theorem lea_congr {f g : Nat → Int32} {n : Nat} (h : ∀ k, k < n → f k = g k) (d b : Int32) {k : Nat} (hk : k < n) : lea f n d b k = lea g n d b k := by
  unfold lea
  by_cases h1 : k + 1 < n
  · rw [if_pos h1, if_pos h1, h k hk, h (k + 1) h1]
  · rw [if_neg h1, if_neg h1]
theorem ent_congr {f g : Nat → Int32} {n : Nat} (h : ∀ k, k < n → f k = g k) (d a b : Int32) : ∀ {k : Nat}, k < n → ent f n d a b k = ent g n d a b k
  | 0, _ => rfl
  | k + 1, hk => lea_congr h d b (by omega)
theorem flw_congr {f g : Nat → Int32} {n : Nat} (h : ∀ k, k < n → f k = g k) (d a b : Int32) {k : Nat} (hk : k < n) : f k + (ent f n d a b k - lea f n d b k) = flw g n d a b k := by
  unfold flw fpre
  rw [if_pos hk, h k hk, ent_congr h d a b hk, lea_congr h d b hk]
def BR (E : Ev) (i : Nat) (x y : Mem) : Prop := ∀ b, b < eNb E 3 → ∀ k, k < eLn E b → y 17 (9 * b + k) = x (ba i b) k
def AR (E : Ev) (i : Nat) (x y : Mem) : Prop := ∀ b, b < eNb E 3 → y 19 b = x (bo i b) 2
def CR (E : Ev) (x y : Mem) : Prop := ∀ b, b < eNb E 3 → y 18 b = x (bo 0 b) 1
def SR (x y : Mem) : Prop := y 15 5 = x 1 0 ∧ y 15 6 = x 1 1 ∧ y 15 7 = x 1 2 ∧ y 15 8 = x 1 3 ∧ y 15 9 = x 1 4 ∧ y 15 11 = x 1 5
def FR (i : Nat) (x y : Mem) : Prop := y 15 10 = x (5 + i) 0 ∧ y 15 13 = x (5 + i) 1
theorem SR.mono {x y x' y' : Mem} (h : SR x y) (h1 : x' 1 = x 1) (h2 : ∀ j, j < 10 ∨ j = 11 → y' 15 j = y 15 j) : SR x' y' := by
  obtain ⟨a, b, c, d, e, f⟩ := h
  unfold SR
  rw [h1, h2 5 (by decide), h2 6 (by decide), h2 7 (by decide), h2 8 (by decide), h2 9 (by decide), h2 11 (by decide)]
  exact ⟨a, b, c, d, e, f⟩
theorem avg_eq {E : Ev} (hE : EO E) {i : Nat} {x y : Mem} (h : BR E i x y) {b : Nat} (hb : b < eNb E 3) : mavg E y b = lavg E x i b := by
  have hn := hE.2.2.2.2.1 3 (by decide)
  have hl := hE.2.2.2.2.2.1 b (by omega)
  unfold mavg lavg quo
  rw [if_neg (nI_ne0 (by omega) (by omega)), psum_congr (f := mrow y b) (g := x (ba i b)) (fun k hk => h b hb k hk)]
theorem str_eq {E : Ev} (hE : EO E) {i : Nat} {x y : Mem} (h : BR E i x y) {b : Nat} (hb : b < eNb E 3) : mstr E y b = pstr (x (ba i b)) (eLn E b) := by
  have hn := hE.2.2.2.2.1 3 (by decide)
  have hl := hE.2.2.2.2.2.1 b (by omega)
  unfold mstr pstr imn
  rw [mmx_pmx (f := mrow y b) (g := x (ba i b)) (fun k hk => h b hb k hk), show mrow y b (eLn E b - 1) = x (ba i b) (eLn E b - 1) from h b hb _ (by omega), show mrow y b 0 = x (ba i b) 0 from h b hb 0 (by omega)]
  by_cases c : x (ba i b) (eLn E b - 1) < x (ba i b) 0
  · rw [if_pos c, if_pos (Int32.le_of_lt c)]
  · rw [if_neg c]
    by_cases c2 : x (ba i b) (eLn E b - 1) ≤ x (ba i b) 0
    · rw [if_pos c2, Int32.le_antisymm c2 (Int32.not_lt.mp c)]
    · rw [if_neg c2]
theorem mmv_BR {E : Ev} (hE : EO E) {i : Nat} {x y y' : Mem} (h : BR E i x y) {b : Nat} (hb : b < eNb E 3) (top bot : Int32) (x' : Mem) (hy : y' 17 = y 17) (hd : y' 15 5 = x 1 0) (hx : x' (ba i b) = flw (x (ba i b)) (eLn E b) (x 1 0) top bot) (hxo : ∀ b', b' < eNb E 3 → b' ≠ b → x' (ba i b') = x (ba i b')) : BR E i x' (mmv E b top bot y') := by
  have hn := hE.2.2.2.2.1 3 (by decide)
  intro b' hb' k hk
  have hl := hE.2.2.2.2.2.1 b' (by omega)
  have hlb := hE.2.2.2.2.2.1 b (by omega)
  show mcp (y' 17) b (eLn E b) (y' 15 5) top bot (eLn E b) (9 * b' + k) = x' (ba i b') k
  rw [hy, hd]
  unfold mcp
  by_cases e : b' = b
  · subst e
    rw [if_pos (by omega), hx, show 9 * b' + k - 9 * b' = k by omega]
    exact flw_congr (f := fun k => y 17 (9 * b' + k)) (fun k hk => h b' hb' k hk) _ _ _ hk
  · rw [if_neg (by omega), hxo b' hb' e]
    exact h b' hb' k hk
theorem mair_eq {a g c : Int32} (hc : ¬ c = 0) : mair a g c = lair a g c := by
  unfold mair lair imx quo
  rw [if_neg hc]
  by_cases h : 0 < a + g / c
  · rw [if_pos h, if_pos (Int32.le_of_lt h)]
  · rw [if_neg h]
    by_cases h2 : 0 ≤ a + g / c
    · rw [if_pos h2]
      exact Int32.le_antisymm (Int32.not_lt.mp h) h2
    · rw [if_neg h2]
theorem one_eq {E : Ev} (hE : EO E) {i : Nat} {x y : Mem} (h : BR E i x y) (hs : SR x y) {b : Nat} (hb : b < eNb E 3) (a : Int32) : BR E i (bdry E i b a x) (mone E b a y) ∧ mtop y b a = btop E i b a x ∧ mbot E y b a = bbot E i b a x := by
  have hn := hE.2.2.2.2.1 3 (by decide)
  have hl := hE.2.2.2.2.2.1 b (by omega)
  have e1 : mtop y b a = btop E i b a x := by
    unfold mtop btop
    rw [show mrow y b 0 = x (ba i b) 0 from h b hb 0 (by omega), hs.2.1]
  have e2 : mbot E y b a = bbot E i b a x := by
    unfold mbot bbot
    rw [show mrow y b (eLn E b - 1) = x (ba i b) (eLn E b - 1) from h b hb _ (by omega), hs.2.1]
  refine ⟨?_, e1, e2⟩
  unfold mone
  rw [e1, e2]
  refine mmv_BR hE h hb _ _ _ (st_ne _ _ _ (by decide)) ?_ (up_at _ _ _) (fun b' hb' hne => ?_)
  · rw [st_ne _ _ _ (by decide)]
    exact hs.1
  · exact bdry_ne E a x (ne_ab (by omega) (by omega)) (fun q => hne (ba_inj (by omega) (by omega) q).2)
theorem mone_ne (E : Ev) (b : Nat) (a : Int32) (y : Mem) {q : Nat} (h1 : q ≠ 17) (h2 : q ≠ 20) (h3 : q ≠ 19) : mone E b a y q = y q := by
  rw [mone, mmv_ne E _ _ _ _ h1 h2, st_ne _ _ _ h3]
theorem subneg (a b : Int32) : a - -b = b + a := by
  rw [Int32.sub_eq_add_neg, Int32.neg_neg, Int32.add_comm]
theorem blow_eq {E : Ev} (hE : EO E) {i : Nat} (hi : i < 3) (hn : eNb E i = eNb E 3) {x y : Mem} (h : BR E i x y) (hs : SR x y) (hr : y 15 10 = x (5 + i) 0) (hc : ¬ x 1 2 = 0) (a : Int32) : ∀ t, t ≤ eNb E 3 → BR E i (ldp E i a x t).1 (mbp E a y t).1 ∧ (mbp E a y t).2 = (ldp E i a x t).2 ∧ (AR E i x y → AR E i (ldp E i a x t).1 (mbp E a y t).1)
  | 0, _ => ⟨h, rfl, fun q => q⟩
  | t + 1, ht => by
    obtain ⟨ih, ig, ia⟩ := blow_eq hE hi hn h hs hr hc a t (by omega)
    have hn6 := hE.2.2.2.2.1 3 (by decide)
    have fx : ∀ q, q < 100 → (ldp E i a x t).1 q = x q := fun q hq => ldp_ne E a x (fun _ => Ne.symm (ne_bl hq)) (fun _ => Ne.symm (ne_al hq)) t
    have fy : ∀ q, q ≠ 17 → q ≠ 20 → q ≠ 19 → (mbp E a y t).1 q = y q := fun q h1 h2 h3 => mbp_ne E a y h1 h2 h3 t
    have ss : SR (ldp E i a x t).1 (mbp E a y t).1 := hs.mono (fx 1 (by decide)) (fun j _ => by rw [fy 15 (by decide) (by decide) (by decide)])
    have en : mnum E (mbp E a y t).1 t = lnum E i (ldp E i a x t).1 t := by
      unfold mnum lnum
      rw [fy 15 (by decide) (by decide) (by decide), fx (5 + i) (by omega), hr, hn]
    have ec : (mbp E a y t).1 15 7 = (ldp E i a x t).1 1 2 := ss.2.2.1
    have hc' : ¬ (ldp E i a x t).1 1 2 = 0 := by rw [fx 1 (by decide)]; exact hc
    have eair : mair a (mbp E a y t).2 ((mbp E a y t).1 15 7) = lair a (ldp E i a x t).2 ((ldp E i a x t).1 1 2) := by
      rw [ec, ig, mair_eq hc']
    have hnum : lnum E i (ldp E i a x t).1 t < eNb E 3 := by
      unfold lnum
      split <;> omega
    simp only [mbp, ldp]
    rw [en, eair, ig]
    obtain ⟨o1, o2, o3⟩ := one_eq hE ih ss hnum (lair a (ldp E i a x t).2 ((ldp E i a x t).1 1 2))
    refine ⟨o1, ?_, fun q b hb => ?_⟩
    · rw [o2, o3, subneg]
    · have ia := ia q b hb
      generalize lnum E i (ldp E i a x t).1 t = c at hnum ⊢
      generalize lair a (ldp E i a x t).2 ((ldp E i a x t).1 1 2) = z
      show mone E c z (mbp E a y t).1 19 b = bdry E i c z (ldp E i a x t).1 (bo i b) 2
      rw [mone, mmv_ne E _ _ _ _ (by decide) (by decide), bdry, up_ne _ _ (Ne.symm (ne_ab (by omega) (by omega)))]
      by_cases e : b = c
      · subst e
        rw [st_at, st_at]
      · rw [st_nj _ _ _ e, st_ne _ _ _ (fun q => e (bo_inj (by omega) (by omega) q).2)]
        exact ia
theorem cnt_eq {i : Nat} {x y : Mem} (hf : FR i x y) {q : Int32} (hq : y 15 11 = q) : FR i (lcnt i q x) (med y) := by
  obtain ⟨h1, h2⟩ := hf
  subst hq
  unfold lcnt med
  rw [h1, h2]
  by_cases c : y 15 11 ≤ 0
  · rw [if_pos c, if_pos c]
    exact ⟨by rw [st_nj _ _ _ (by decide), st_nj _ _ _ (by decide)]; exact h1, by rw [st_at, st_at]⟩
  · rw [if_neg c, if_neg c]
    by_cases c2 : x (5 + i) 1 + 1 - (x (5 + i) 1 + 1) / y 15 11 * y 15 11 = 0
    · rw [if_pos c2, if_pos c2]
      exact ⟨by rw [st_at, st_at], by rw [st_nj _ _ _ (show 13 ≠ 10 by decide), st_nj _ _ _ (show 1 ≠ 0 by decide), st_at, st_at]⟩
    · rw [if_neg c2, if_neg c2]
      exact ⟨by rw [st_nj _ _ _ (by decide), st_nj _ _ _ (by decide)]; exact h1, by rw [st_at, st_at]⟩
theorem dry_eq {E : Ev} (hE : EO E) {i : Nat} (hi : i < 3) (hn : eNb E i = eNb E 3) {x y : Mem} (h : BR E i x y) (hs : SR x y) (hf : FR i x y) (hc : ¬ x 1 2 = 0) (a : Int32) : BR E i (ldry E i a x) (mblm E a y) ∧ FR i (ldry E i a x) (med (mblm E a y)) ∧ mblr E a y = lgiv E i a x ∧ (AR E i x y → AR E i (ldry E i a x) (mblm E a y)) := by
  have hn6 := hE.2.2.2.2.1 3 (by decide)
  obtain ⟨b1, b2, b3⟩ := blow_eq hE hi hn h hs hf.1 hc a (eNb E 3) (Nat.le_refl _)
  rw [← hn] at b1 b2 b3
  have b1' : BR E i (ldp E i a x (eNb E i)).1 (mblm E a y) := by unfold mblm; rw [← hn]; exact b1
  have b3' : AR E i x y → AR E i (ldp E i a x (eNb E i)).1 (mblm E a y) := by unfold mblm; rw [← hn]; exact b3
  refine ⟨fun b hb k hk => ?_, ?_, ?_, fun q b hb => ?_⟩
  · rw [ldry, lcnt_ne _ _ (ne_al (by omega))]
    exact b1' b hb k hk
  · refine cnt_eq ⟨?_, ?_⟩ ?_
    · rw [mblm_ne E _ _ (by decide) (by decide) (by decide), ldp_ne E a x (fun _ => Ne.symm (ne_bl (by omega))) (fun _ => Ne.symm (ne_al (by omega)))]
      exact hf.1
    · rw [mblm_ne E _ _ (by decide) (by decide) (by decide), ldp_ne E a x (fun _ => Ne.symm (ne_bl (by omega))) (fun _ => Ne.symm (ne_al (by omega)))]
      exact hf.2
    · rw [mblm_ne E _ _ (by decide) (by decide) (by decide), ldp_ne E a x (fun _ => Ne.symm (ne_bl (by omega))) (fun _ => Ne.symm (ne_al (by omega)))]
      exact hs.2.2.2.2.2
  · unfold mblr lgiv
    rw [← hn]
    exact b2
  · rw [ldry, lcnt_ne _ _ (ne_bl (by omega))]
    exact b3' q b hb
theorem rst_eq {E : Ev} (hE : EO E) {i : Nat} (hi : i < 3) (hn : eNb E i = eNb E 3) {x y : Mem} (h : BR E i x y) (hs : SR x y) : ∀ t, t ≤ eNb E 3 → BR E i (lrs E i x t) (mrs E y t)
  | 0, _ => h
  | t + 1, ht => by
    have ih := rst_eq hE hi hn h hs t (by omega)
    have hn6 := hE.2.2.2.2.1 3 (by decide)
    show BR E i (brst E i t (lrs E i x t 1 0) (lrs E i x t)) (mmv E t 0 0 (mrs E y t))
    have e1 : lrs E i x t 1 = x 1 := lrs_ne E x (fun _ => Ne.symm (ne_al (by decide))) t
    have e2 : mrs E y t 15 = y 15 := mrs_ne E y (by decide) (by decide) t
    refine mmv_BR hE ih (by omega) 0 0 _ rfl ?_ (up_at _ _ _) (fun b' hb' hne => up_ne _ _ (fun q => hne (ba_inj (by omega) (by omega) q).2))
    rw [e2, e1]
    exact hs.1
theorem lrc_neb (E : Ev) {i : Nat} (x h : Int32) (v : Mem) {b : Nat} (hb : b < 10) : ∀ t, t ≤ 9 → (lrc E i x h v t).1 (ba i b) = v (ba i b)
  | 0, _ => rfl
  | t + 1, ht => by
    have ih := lrc_neb E (i := i) x h v hb t (by omega)
    simp only [lrc]
    split
    · split
      · exact ih
      · show st _ _ _ _ (ba i b) = v (ba i b)
        rw [st_ne _ _ _ (ne_ab hb (by omega))]
        exact ih
    · exact ih
theorem rec_eq {E : Ev} (hE : EO E) (hn : eNb E 0 = eNb E 3) {x y : Mem} (h : BR E 0 x y) (hc : CR E x y) {lim hr : Int32} (h8 : y 15 8 = lim) (h12 : y 15 12 = hr) : ∀ t, t ≤ eNb E 3 → CR E (lrc E 0 lim hr x t).1 (mec E y t).1 ∧ (mec E y t).2 = (lrc E 0 lim hr x t).2
  | 0, _ => ⟨hc, rfl⟩
  | t + 1, ht => by
    obtain ⟨ic, ig⟩ := rec_eq hE hn h hc h8 h12 t (by omega)
    have hn6 := hE.2.2.2.2.1 3 (by decide)
    have fy : ∀ q, q ≠ 18 → (mec E y t).1 q = y q := fun q h => mec_ne E y h t
    have fx : ∀ b, b < 10 → (lrc E 0 lim hr x t).1 (ba 0 b) = x (ba 0 b) := fun b hb => by
      exact lrc_neb E lim hr x hb t (by omega)
    have ib : BR E 0 (lrc E 0 lim hr x t).1 (mec E y t).1 := fun b hb k hk => by
      rw [fy 17 (by decide), fx b (by omega)]
      exact h b hb k hk
    simp only [mec, lrc]
    rw [str_eq hE ib (show t < eNb E 3 by omega), fy 15 (by decide), h8, h12, ic t (by omega)]
    by_cases c1 : pstr ((lrc E 0 lim hr x t).1 (ba 0 t)) (eLn E t) ≤ lim
    · simp only [if_pos c1]
      by_cases c2 : (lrc E 0 lim hr x t).1 (bo 0 t) 1 = -1000005
      · rw [if_pos c2]
        exact ⟨ic, ig⟩
      · rw [if_neg c2]
        exact ⟨ic, ig⟩
    · simp only [if_neg c1]
      by_cases c2 : (lrc E 0 lim hr x t).1 (bo 0 t) 1 = -1000005
      · rw [if_pos c2, if_pos c2]
        refine ⟨fun b hb => ?_, by rw [ig]⟩
        show st (mec E y t).1 18 t hr 18 b = st (lrc E 0 lim hr x t).1 (bo 0 t) 1 hr (bo 0 b) 1
        by_cases e : b = t
        · subst e
          rw [st_at, st_at]
        · rw [st_nj _ _ _ e, st_ne _ _ _ (fun q => e (bo_inj (by omega) (by omega) q).2)]
          exact ic b hb
      · rw [if_neg c2, if_neg c2]
        exact ⟨ic, ig⟩

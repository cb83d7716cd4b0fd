/-! moistures stay within 0 and 2000 -/
def bd (x : Int32) (lo hi : Int) : Prop := lo ≤ x.toInt ∧ x.toInt ≤ hi
theorem ti_bm {z : Int} (h1 : -2147483648 ≤ z) (h2 : z ≤ 2147483647) : z.bmod (2 ^ 32) = z := by
  rw [Int.bmod_eq_of_le (by omega) (by omega)]
theorem ti_add {a b : Int32} (h1 : -2147483648 ≤ a.toInt + b.toInt) (h2 : a.toInt + b.toInt ≤ 2147483647) : (a + b).toInt = a.toInt + b.toInt := by
  rw [Int32.toInt_add, ti_bm h1 h2]
theorem ti_sub {a b : Int32} (h1 : -2147483648 ≤ a.toInt - b.toInt) (h2 : a.toInt - b.toInt ≤ 2147483647) : (a - b).toInt = a.toInt - b.toInt := by
  rw [Int32.toInt_sub, ti_bm h1 h2]
theorem ti_mul {a b : Int32} (h1 : -2147483648 ≤ a.toInt * b.toInt) (h2 : a.toInt * b.toInt ≤ 2147483647) : (a * b).toInt = a.toInt * b.toInt := by
  rw [Int32.toInt_mul, ti_bm h1 h2]
theorem ti_neg {a : Int32} (h1 : -2147483647 ≤ a.toInt) : (-a).toInt = -a.toInt := by
  have h2 := Int32.toInt_le a
  have e : Int32.maxValue.toInt = 2147483647 := by decide
  rw [e] at h2
  rw [Int32.toInt_neg, ti_bm (by omega) (by omega)]
theorem ti_div {a b : Int32} (h1 : -2147483648 ≤ a.toInt.tdiv b.toInt) (h2 : a.toInt.tdiv b.toInt ≤ 2147483647) : (a / b).toInt = a.toInt.tdiv b.toInt := by
  rw [Int32.toInt_div, ti_bm h1 h2]
/-- a flow: twice it lies between 0 and the difference -/
theorem flz {X D : Int} (h0 : 0 ≤ D) (h1 : D ≤ 500) (hx : 0 ≤ X) : 0 ≤ (X * D).tdiv 1000 ∧ 2 * (X * D).tdiv 1000 ≤ X ∧ X * D ≤ X * 500 ∧ 0 ≤ X * D := by
  have a1 : 0 ≤ X * D := Int.mul_nonneg hx h0
  have a2 : X * D ≤ X * 500 := Int.mul_le_mul_of_nonneg_left h1 hx
  rw [Int.tdiv_eq_ediv_of_nonneg a1]
  omega
theorem flq {x y d : Int32} (hx : bd x 0 2000) (hy : bd y 0 2000) (hd : bd d 0 500) : (0 ≤ x.toInt - y.toInt → 0 ≤ ((x - y) * d / 1000).toInt ∧ 2 * ((x - y) * d / 1000).toInt ≤ x.toInt - y.toInt) ∧ (x.toInt - y.toInt ≤ 0 → ((x - y) * d / 1000).toInt ≤ 0 ∧ x.toInt - y.toInt ≤ 2 * ((x - y) * d / 1000).toInt) := by
  obtain ⟨x1, x2⟩ := hx
  obtain ⟨y1, y2⟩ := hy
  obtain ⟨d1, d2⟩ := hd
  have e1 : (x - y).toInt = x.toInt - y.toInt := ti_sub (by omega) (by omega)
  have e3 : (1000 : Int32).toInt = 1000 := by decide
  constructor
  · intro h
    obtain ⟨f1, f2, f3, f4⟩ := flz d1 d2 h
    have e2 : ((x - y) * d).toInt = (x.toInt - y.toInt) * d.toInt := by rw [ti_mul (by rw [e1]; omega) (by rw [e1]; omega), e1]
    have e4 : ((x - y) * d / 1000).toInt = ((x.toInt - y.toInt) * d.toInt).tdiv 1000 := by rw [ti_div (by rw [e2, e3]; omega) (by rw [e2, e3]; omega), e2, e3]
    rw [e4]
    exact ⟨f1, f2⟩
  · intro h
    obtain ⟨f1, f2, f3, f4⟩ := flz d1 d2 (show 0 ≤ -(x.toInt - y.toInt) by omega)
    rw [Int.neg_mul] at f1 f2 f3 f4
    rw [Int.neg_tdiv] at f1 f2
    have e2 : ((x - y) * d).toInt = (x.toInt - y.toInt) * d.toInt := by rw [ti_mul (by rw [e1]; omega) (by rw [e1]; omega), e1]
    have e4 : ((x - y) * d / 1000).toInt = ((x.toInt - y.toInt) * d.toInt).tdiv 1000 := by rw [ti_div (by rw [e2, e3]; omega) (by rw [e2, e3]; omega), e2, e3]
    rw [e4]
    omega
theorem flo {x y d : Int32} (hx : bd x 0 2000) (hy : bd y 0 2000) (hd : bd d 0 500) : (x.toInt - 2000 ≤ 2 * ((x - y) * d / 1000).toInt ∧ 2 * ((x - y) * d / 1000).toInt ≤ x.toInt) ∧ (-y.toInt ≤ 2 * ((x - y) * d / 1000).toInt ∧ 2 * ((x - y) * d / 1000).toInt ≤ 2000 - y.toInt) := by
  have h := flq hx hy hd
  obtain ⟨x1, x2⟩ := hx
  obtain ⟨y1, y2⟩ := hy
  rcases (show 0 ≤ x.toInt - y.toInt ∨ x.toInt - y.toInt ≤ 0 by omega) with q | q
  · have := h.1 q
    omega
  · have := h.2 q
    omega
theorem flw_bd {f : Nat → Int32} {n : Nat} {d top bot : Int32} (hf : ∀ k, k < n → bd (f k) 0 2000) (hd : bd d 0 500) (ht : 0 < n → (f 0).toInt - 2000 ≤ 2 * top.toInt ∧ 2 * top.toInt ≤ (f 0).toInt) (hb : 0 < n → (f (n - 1)).toInt - 2000 ≤ 2 * bot.toInt ∧ 2 * bot.toInt ≤ (f (n - 1)).toInt) {k : Nat} (hk : k < n) : bd (flw f n d top bot k) 0 2000 := by
  have hl : ∀ j, j < n → (f j).toInt - 2000 ≤ 2 * (lea f n d bot j).toInt ∧ 2 * (lea f n d bot j).toInt ≤ (f j).toInt := by
    intro j hj
    unfold lea
    by_cases h1 : j + 1 < n
    · rw [if_pos h1]
      exact (flo (hf j hj) (hf (j + 1) h1) hd).1
    · rw [if_neg h1]
      obtain rfl : j = n - 1 := by omega
      exact hb (by omega)
  have he : -(f k).toInt ≤ 2 * (ent f n d top bot k).toInt ∧ 2 * (ent f n d top bot k).toInt ≤ 2000 - (f k).toInt := by
    cases k with
    | zero =>
      have := ht hk
      have h0 := hf 0 hk
      obtain ⟨a1, a2⟩ := h0
      show -(f 0).toInt ≤ 2 * (-top).toInt ∧ 2 * (-top).toInt ≤ 2000 - (f 0).toInt
      rw [ti_neg (by omega)]
      omega
    | succ j =>
      show -(f (j + 1)).toInt ≤ 2 * (lea f n d bot j).toInt ∧ 2 * (lea f n d bot j).toInt ≤ 2000 - (f (j + 1)).toInt
      unfold lea
      rw [if_pos hk]
      exact (flo (hf j (by omega)) (hf (j + 1) hk) hd).2
  have hk2 := hl k hk
  obtain ⟨a1, a2⟩ := hf k hk
  unfold flw fpre
  rw [if_pos hk]
  have e1 : (ent f n d top bot k - lea f n d bot k).toInt = (ent f n d top bot k).toInt - (lea f n d bot k).toInt := ti_sub (by omega) (by omega)
  unfold bd
  rw [ti_add (by rw [e1]; omega) (by rw [e1]; omega), e1]
  omega
theorem core {G c M : Int} (h0 : 0 ≤ G) (hc : 1 ≤ c) (hM : 0 ≤ M) (h : G ≤ M * c) : 0 ≤ G / c ∧ G / c ≤ M ∧ G / c ≤ G ∧ G + (M - G / c) ≤ M * c := by
  have e := Int.mul_ediv_add_emod G c
  have r1 := Int.emod_nonneg G (show c ≠ 0 by omega)
  have r2 := Int.emod_lt_of_pos G (show 0 < c by omega)
  have q0 : 0 ≤ G / c := Int.ediv_nonneg h0 (by omega)
  generalize hq : G / c = q at e q0 ⊢
  generalize G % c = r at e r1 r2
  have qM : q ≤ M := by
    rcases (show q ≤ M ∨ M + 1 ≤ q by omega) with h1 | h1
    · exact h1
    · have := Int.mul_le_mul_of_nonneg_left h1 (show 0 ≤ c by omega)
      rw [Int.mul_add, Int.mul_comm c M] at this
      omega
  have qG : q ≤ G := by
    have := Int.mul_le_mul_of_nonneg_right hc q0
    omega
  refine ⟨q0, qM, qG, ?_⟩
  have e2 : (M - q) * (c - 1) = M * c - c * q - (M - q) := by
    rw [Int.mul_sub, Int.sub_mul, Int.mul_one, Int.mul_comm q c]
  rcases (show M - q = 0 ∨ 1 ≤ M - q by omega) with h1 | h1
  · obtain rfl : M = q := by omega
    omega
  · have := Int.mul_le_mul_of_nonneg_right h1 (show 0 ≤ c - 1 by omega)
    omega
theorem air_step {G c i : Int} (hc : 1 ≤ c) (i0 : 0 ≤ i) (i3 : i ≤ 300) (h1 : -(i * c) ≤ G) (h2 : G ≤ (2000 - i) * c) : 0 ≤ i + G.tdiv c ∧ i + G.tdiv c ≤ 2000 ∧ ∀ g, -(i + G.tdiv c) ≤ g → g ≤ 2000 - (i + G.tdiv c) → -(i * c) ≤ G + g ∧ G + g ≤ (2000 - i) * c := by
  have p1 := Int.mul_le_mul_of_nonneg_left hc i0
  have p2 := Int.mul_le_mul_of_nonneg_left hc (show 0 ≤ 2000 - i by omega)
  rcases (show 0 ≤ G ∨ 0 ≤ -G by omega) with h | h
  · rw [Int.tdiv_eq_ediv_of_nonneg h]
    obtain ⟨a, b, d, e⟩ := core h hc (show 0 ≤ 2000 - i by omega) h2
    generalize G / c = q at a b d e ⊢
    refine ⟨by omega, by omega, fun g g1 g2 => ⟨by omega, by omega⟩⟩
  · obtain ⟨a, b, d, e⟩ := core h hc i0 (by omega)
    have t : G.tdiv c = -(-G / c) := by
      rw [← Int.tdiv_eq_ediv_of_nonneg h, Int.neg_tdiv, Int.neg_neg]
    rw [t]
    generalize -G / c = q at a b d e ⊢
    refine ⟨by omega, by omega, fun g g1 g2 => ⟨by omega, by omega⟩⟩
def MB (E : Ev) (i : Nat) (x : Mem) : Prop := ∀ b, b < eNb E i → ∀ k, k < eLn E b → bd (x (ba i b) k) 0 2000
def SB (x : Mem) : Prop := bd (x 1 0) 1 250 ∧ bd (x 1 1) 1 500 ∧ bd (x 1 2) 1 10000 ∧ bd (x 1 3) 20 900 ∧ bd (x 1 4) 0 300
theorem bd.mono {x : Int32} {a b c d : Int} (h : bd x a b) (h1 : c ≤ a) (h2 : b ≤ d) : bd x c d := ⟨Int.le_trans h1 h.1, Int.le_trans h.2 h2⟩
theorem SB.cap {x : Mem} (h : SB x) : ¬ x 1 2 = 0 := fun q => by
  have := h.2.2.1.1
  rw [q] at this
  exact absurd this (by decide)
theorem bd.nn {x : Int32} {a b : Int} (h : bd x a b) (ha : 0 ≤ a) : (0 : Int32) ≤ x := by
  rw [Int32.le_iff_toInt_le]
  have e : (0 : Int32).toInt = 0 := by decide
  have := h.1
  omega
theorem lair_ti {a G c : Int32} (hc : ¬ c = 0) (h1 : 0 ≤ a.toInt + G.toInt.tdiv c.toInt) (h2 : a.toInt + G.toInt.tdiv c.toInt ≤ 2000) (a0 : bd a 0 300) : (lair a G c).toInt = a.toInt + G.toInt.tdiv c.toInt := by
  obtain ⟨b1, b2⟩ := a0
  unfold lair quo
  rw [if_neg hc]
  have e1 : (G / c).toInt = G.toInt.tdiv c.toInt := ti_div (by omega) (by omega)
  have e2 : (a + G / c).toInt = a.toInt + G.toInt.tdiv c.toInt := by rw [ti_add (by rw [e1]; omega) (by rw [e1]; omega), e1]
  have e0 : (0 : Int32).toInt = 0 := by decide
  unfold imx
  by_cases h : (0 : Int32) < a + G / c
  · rw [if_pos h, e2]
  · rw [if_neg h]
    rw [Int32.lt_iff_toInt_lt, e0, e2] at h
    omega
theorem ldp_bd {E : Ev} (hE : EO E) {i : Nat} (hi : i < 3) {x : Mem} (hm : MB E i x) (hs : SB x) {a : Int32} (ha : bd a 0 300) : ∀ t, t ≤ eNb E i → MB E i (ldp E i a x t).1 ∧ -(a.toInt * (x 1 2).toInt) ≤ (ldp E i a x t).2.toInt ∧ (ldp E i a x t).2.toInt ≤ (2000 - a.toInt) * (x 1 2).toInt
  | 0, _ => by
    refine ⟨hm, ?_, ?_⟩
    · have := Int.mul_nonneg ha.1 (show 0 ≤ (x 1 2).toInt from Int.le_trans (by decide) hs.2.2.1.1)
      show _ ≤ (0 : Int32).toInt
      have e : (0 : Int32).toInt = 0 := by decide
      omega
    · have := Int.mul_nonneg (show 0 ≤ 2000 - a.toInt by have := ha.2; omega) (show 0 ≤ (x 1 2).toInt from Int.le_trans (by decide) hs.2.2.1.1)
      show (0 : Int32).toInt ≤ _
      have e : (0 : Int32).toInt = 0 := by decide
      omega
  | t + 1, ht => by
    obtain ⟨ih, g1, g2⟩ := ldp_bd hE hi hm hs ha t (by omega)
    have hn6 := hE.2.2.2.2.1 i (by omega)
    have fx : (ldp E i a x t).1 1 = x 1 := ldp_ne E a x (fun _ => Ne.symm (ne_bl (by decide))) (fun _ => Ne.symm (ne_al (by decide))) t
    have hnum : lnum E i (ldp E i a x t).1 t < eNb E i := by
      unfold lnum
      split <;> omega
    simp only [ldp]
    rw [fx]
    generalize hw : (ldp E i a x t).1 = w at ih fx hnum ⊢
    generalize (ldp E i a x t).2 = G at g1 g2 ⊢
    generalize lnum E i w t = c at hnum ⊢
    have hl := hE.2.2.2.2.2.1 c (by omega)
    obtain ⟨s1, s2, s3, s4, s5⟩ := hs
    obtain ⟨z1, z2, z3⟩ := air_step s3.1 ha.1 ha.2 g1 g2
    have hcap : ¬ x 1 2 = 0 := SB.cap ⟨s1, s2, s3, s4, s5⟩
    have ea := lair_ti (G := G) hcap z1 z2 ha
    rw [← ea] at z1 z2 z3
    generalize lair a G (x 1 2) = A at ea z1 z2 z3 ⊢
    have hA : bd A 0 2000 := ⟨z1, z2⟩
    have b0 := ih c hnum 0 (by omega)
    have bn := ih c hnum (eLn E c - 1) (by omega)
    have etop : btop E i c A w = (w (ba i c) 0 - A) * x 1 1 / 1000 := by unfold btop; rw [fx]
    have ebot : bbot E i c A w = (w (ba i c) (eLn E c - 1) - A) * x 1 1 / 1000 := by unfold bbot; rw [fx]
    have sd := s2.mono (show (0 : Int) ≤ 1 by decide) (Int.le_refl _)
    have o1 := flo b0 hA sd
    have o2 := flo bn hA sd
    rw [← etop] at o1
    rw [← ebot] at o2
    refine ⟨?_, ?_⟩
    · intro b hb k hk
      have hlb := hE.2.2.2.2.2.1 b (by omega)
      by_cases e : b = c
      · subst e
        rw [bdry, up_at, fx]
        exact flw_bd (fun k hk => ih b hb k hk) (s1.mono (by decide) (by decide)) (fun _ => o1.1) (fun _ => o2.1) hk
      · rw [bdry_ne E _ _ (ne_ab (by omega) (by omega)) (fun q => e (ba_inj (by omega) (by omega) q).2)]
        exact ih b hb k hk
    · generalize btop E i c A w = T at o1 ⊢
      generalize bbot E i c A w = B at o2 ⊢
      have c1 : (T + B).toInt = T.toInt + B.toInt := ti_add (by omega) (by omega)
      have := z3 (T.toInt + B.toInt) (by omega) (by omega)
      have m1 := Int.mul_le_mul_of_nonneg_left s3.2 ha.1
      have m2 := Int.mul_le_mul_of_nonneg_left s3.2 (show 0 ≤ 2000 - a.toInt by have := ha.2; omega)
      have a1 := ha.1
      have a2 := ha.2
      rw [ti_add (by rw [c1]; omega) (by rw [c1]; omega), c1]
      exact this
theorem MB.keep {E : Ev} {i : Nat} {x x' : Mem} (h : MB E i x) (hx : ∀ b, b < eNb E i → x' (ba i b) = x (ba i b)) : MB E i x' := fun b hb k hk => by
  rw [hx b hb]
  exact h b hb k hk
theorem ldry_bd {E : Ev} (hE : EO E) {i : Nat} (hi : i < 3) {x : Mem} (hm : MB E i x) (hs : SB x) {a : Int32} (ha : bd a 0 300) : MB E i (ldry E i a x) :=
  (ldp_bd hE hi hm hs ha _ (Nat.le_refl _)).1.keep (fun b hb => by rw [ldry, lcnt_ne _ _ (ne_al (by omega))])
theorem lrs_bd {E : Ev} (hE : EO E) {i : Nat} (hi : i < 3) {x : Mem} (hm : MB E i x) (hs : SB x) : ∀ t, t ≤ eNb E i → MB E i (lrs E i x t)
  | 0, _ => hm
  | t + 1, ht => by
    have ih := lrs_bd hE hi hm hs t (by omega)
    have hn6 := hE.2.2.2.2.1 i (by omega)
    have e1 : lrs E i x t 1 = x 1 := lrs_ne E x (fun _ => Ne.symm (ne_al (by decide))) t
    intro b hb k hk
    have hlb := hE.2.2.2.2.2.1 b (by omega)
    show bd (brst E i t (lrs E i x t 1 0) (lrs E i x t) (ba i b) k) 0 2000
    rw [e1]
    by_cases e : b = t
    · subst e
      rw [brst, up_at]
      refine flw_bd (fun k hk => ih b hb k hk) (hs.1.mono (by decide) (by decide)) (fun _ => ?_) (fun _ => ?_) hk
      · obtain ⟨a1, a2⟩ := ih b hb 0 (by omega)
        have e : (0 : Int32).toInt = 0 := by decide
        omega
      · obtain ⟨a1, a2⟩ := ih b hb (eLn E b - 1) (by omega)
        have e : (0 : Int32).toInt = 0 := by decide
        omega
    · rw [brst, up_ne _ _ (fun q => e (ba_inj (by omega) (by omega) q).2)]
      exact ih b hb k hk
theorem lrst_bd {E : Ev} (hE : EO E) {i : Nat} (hi : i < 3) {x : Mem} (hm : MB E i x) (hs : SB x) : MB E i (lrst E i x) := lrs_bd hE hi hm hs _ (Nat.le_refl _)
theorem kend_ba {E : Ev} (hE : EO E) (x : Mem) {b : Nat} (hb : b < 10) : (kend E x).1 (ba 0 b) = x (ba 0 b) := by
  have hn6 := hE.2.2.2.2.1 0 (by decide)
  rw [kend, lrc_neb E _ _ _ hb _ (by omega), st_ne _ _ _ (ne_al (by decide))]
theorem kend_bd {E : Ev} (hE : EO E) {x : Mem} (hm : MB E 0 x) : MB E 0 (kend E x).1 := by
  have hn6 := hE.2.2.2.2.1 0 (by decide)
  exact hm.keep (fun b hb => kend_ba hE x (by omega))
theorem krh_bd {E : Ev} (hE : EO E) {x : Mem} (hm : MB E 0 x) (hs : SB x) {a : Int32} (ha : bd a 0 300) : MB E 0 (krh E a x) := by
  unfold krh
  refine kend_bd hE ?_
  exact (ldry_bd hE (by decide) hm hs ha).keep (fun b hb => st_ne _ _ _ (ne_al (by decide)))
theorem psum_bd {f : Nat → Int32} : ∀ {n : Nat}, n ≤ 9 → (∀ k, k < n → bd (f k) 0 2000) → bd (psum f n) 0 (2000 * n)
  | 0, _, _ => ⟨(by decide : (0 : Int) ≤ (0 : Int32).toInt), (by decide : (0 : Int32).toInt ≤ (0 : Int))⟩
  | n + 1, hn, h => by
    obtain ⟨a1, a2⟩ := psum_bd (n := n) (by omega) (fun k hk => h k (by omega))
    obtain ⟨b1, b2⟩ := h n (by omega)
    unfold bd
    rw [psum, ti_add (by omega) (by omega)]
    omega
theorem lavg_nn {E : Ev} (hE : EO E) {x : Mem} (hm : MB E 0 x) {b : Nat} (hb : b < eNb E 0) : ¬ lavg E x 0 b ≤ -1 := by
  have hn6 := hE.2.2.2.2.1 0 (by decide)
  have hl := hE.2.2.2.2.2.1 b (by omega)
  obtain ⟨p1, p2⟩ := psum_bd (f := x (ba 0 b)) (n := eLn E b) (by omega) (hm b hb)
  unfold lavg quo
  rw [if_neg (nI_ne0 (by omega) (by omega))]
  have en : (nI (eLn E b)).toInt = eLn E b := nI_toInt (by omega)
  have t : (psum (x (ba 0 b)) (eLn E b)).toInt.tdiv (nI (eLn E b)).toInt = (psum (x (ba 0 b)) (eLn E b)).toInt / (eLn E b : Int) := by rw [en, Int.tdiv_eq_ediv_of_nonneg p1]
  have d1 : 0 ≤ (psum (x (ba 0 b)) (eLn E b)).toInt / (eLn E b : Int) := Int.ediv_nonneg p1 (by omega)
  have d2 : (psum (x (ba 0 b)) (eLn E b)).toInt / (eLn E b : Int) ≤ (psum (x (ba 0 b)) (eLn E b)).toInt := Int.ediv_le_self _ p1
  rw [Int32.le_iff_toInt_le, ti_div (by rw [t]; omega) (by rw [t]; omega), t]
  have e : (-1 : Int32).toInt = -1 := by decide
  omega
theorem wb_eq {E : Ev} (hE : EO E) (hn : eNb E 0 = eNb E 3) {x y : Mem} (h : BR E 0 x y) (hm : MB E 0 x) : ∀ t, t ≤ eNb E 3 → mwb E y t = lwb E x 0 t ∧ (t ≠ 0 → mavg E y (mwi E y t) = lwg E x 0 t)
  | 0, _ => ⟨rfl, fun q => absurd rfl q⟩
  | t + 1, ht => by
    obtain ⟨i1, i2⟩ := wb_eq hE hn h hm t (by omega)
    have ea := avg_eq hE h (b := t) (by omega)
    by_cases h0 : t = 0
    · subst h0
      have na := lavg_nn hE hm (b := 0) (by omega)
      exact ⟨(if_neg na).symm, fun _ => ea.trans (if_neg na).symm⟩
    · have i2 := i2 h0
      simp only [lwb, lwg]
      by_cases c : mavg E y t ≤ mavg E y (mwi E y t)
      · have c' := c
        rw [ea, i2] at c'
        rw [if_pos c', if_pos c', mw_b E y h0 c]
        refine ⟨?_, fun _ => ?_⟩
        · rw [← i1, mwb, if_neg h0]
        · rw [mwi, if_neg h0, if_pos c]
          exact i2
      · have c' := c
        rw [ea, i2] at c'
        rw [if_neg c', if_neg c', mw_c E y h0 c]
        refine ⟨rfl, fun _ => ?_⟩
        rw [mwi, if_neg h0, if_neg c]
        exact ea

/-! what holds between two calls of the law; what the calls leave alone -/
def PH (E : Ev) (ns : Nat) (x : Mem) : Prop := SB x ∧ (∀ t, t < ns → bd (x 3 t) 0 2000 ∧ bd (x 4 t) 0 300) ∧ isB (x 5 0) ∧ MB E 0 x
def INV (E : Ev) (ns : Nat) (v : Mem) : Prop := EO E ∧ EX E ∧ EN E ∧ ns ≤ 8 ∧ RB E ns v v ∧ FR 0 v v ∧ PH E ns v
abbrev cls (q : Nat) : Prop := q < 12 ∨ 100 ≤ q
abbrev mdl (q : Nat) : Prop := 15 ≤ q ∧ q ≤ 26
theorem cls_ba (i b : Nat) : cls (ba i b) := Or.inr (by unfold ba; omega)
theorem cls_bo (i b : Nat) : cls (bo i b) := Or.inr (by unfold bo; omega)
theorem SR.y {x y y' : Mem} (h : SR x y) (hy : y' 15 = y 15) : SR x y' := by
  unfold SR
  rw [hy]
  exact h
theorem SR.x {x x' y : Mem} (h : SR x y) (hx : x' 1 = x 1) : SR x' y := by
  unfold SR
  rw [hx]
  exact h
theorem RB.y {E : Ev} {ns : Nat} {x y y' : Mem} (h : RB E ns x y) (hy : ∀ q, mdl q → y' q = y q) : RB E ns x y' := by
  obtain ⟨h1, h2, h3, h4, h5, h6, h7, h8, h9⟩ := h
  refine ⟨fun b hb k hk => ?_, fun b hb => ?_, fun b hb => ?_, h4.y (hy 15 (by decide)), ?_, ?_, h7, ?_, fun t ht => ?_⟩
  · rw [hy 17 (by decide)]; exact h1 b hb k hk
  · rw [hy 18 (by decide)]; exact h2 b hb
  · rw [hy 19 (by decide)]; exact h3 b hb
  · rw [hy 15 (by decide)]; exact h5
  · rw [hy 15 (by decide)]; exact h6
  · rw [hy 15 (by decide)]; exact h8
  · rw [hy 21 (by decide), hy 22 (by decide)]; exact h9 t ht
theorem RB.x {E : Ev} {ns : Nat} {x x' y : Mem} (h : RB E ns x y) (hx : ∀ q, cls q → x' q = x q) : RB E ns x' y := by
  obtain ⟨h1, h2, h3, h4, h5, h6, h7, h8, h9⟩ := h
  refine ⟨fun b hb k hk => ?_, fun b hb => ?_, fun b hb => ?_, h4.x (hx 1 (Or.inl (by decide))), ?_, ?_, ?_, h8, fun t ht => ?_⟩
  · rw [hx _ (cls_ba 0 b)]; exact h1 b hb k hk
  · rw [hx _ (cls_bo 0 b)]; exact h2 b hb
  · rw [hx _ (cls_bo 0 b)]; exact h3 b hb
  · rw [hx 0 (Or.inl (by decide))]; exact h5
  · rw [hx 0 (Or.inl (by decide))]; exact h6
  · rw [hx 2 (Or.inl (by decide))]; exact h7
  · rw [hx 3 (Or.inl (by decide)), hx 4 (Or.inl (by decide))]; exact h9 t ht
theorem FR.y {x y y' : Mem} (h : FR 0 x y) (hy : ∀ q, mdl q → y' q = y q) : FR 0 x y' := by
  unfold FR
  rw [hy 15 (by decide)]
  exact h
theorem FR.x {x x' y : Mem} (h : FR 0 x y) (hx : ∀ q, cls q → x' q = x q) : FR 0 x' y := by
  unfold FR
  rw [hx (5 + 0) (Or.inl (by decide))]
  exact h
theorem PH.x {E : Ev} {ns : Nat} {x x' : Mem} (h : PH E ns x) (hx : ∀ q, cls q → x' q = x q) : PH E ns x' := by
  obtain ⟨h1, h2, h3, h4⟩ := h
  refine ⟨?_, fun t ht => ?_, ?_, h4.keep (fun b _ => hx _ (cls_ba 0 b))⟩
  · unfold SB; rw [hx 1 (Or.inl (by decide))]; exact h1
  · rw [hx 3 (Or.inl (by decide)), hx 4 (Or.inl (by decide))]; exact h2 t ht
  · rw [hx 5 (Or.inl (by decide))]; exact h3
theorem INV.split {E : Ev} {ns : Nat} {v v1 : Mem} (h : INV E ns v) (h1 : ∀ q, mdl q → v1 q = v q) : RB E ns v v1 ∧ FR 0 v v1 := ⟨h.2.2.2.2.1.y h1, h.2.2.2.2.2.1.y h1⟩
theorem INV.next {E : Ev} {ns : Nat} {v1 v2 : Mem} (hE : EO E) (hX : EX E) (hN : EN E) (h8 : ns ≤ 8) (hr : RB E ns v1 v2) (hf : FR 0 v1 v2) (hp : PH E ns v1) (hu : ∀ q, cls q → v2 q = v1 q) : INV E ns v2 := ⟨hE, hX, hN, h8, hr.x hu, hf.x hu, hp.x hu⟩
theorem RB.gen {E : Ev} (hE : EO E) {ns ns' : Nat} {x y x' y' : Mem} (h : RB E ns x y) (hb : ∀ b, b < 6 → x' (ba 0 b) = x (ba 0 b)) (ho : ∀ b, b < 6 → x' (bo 0 b) = x (bo 0 b)) (h17 : ∀ q, q < 54 → y' 17 q = y 17 q) (h18 : ∀ b, b < 6 → y' 18 b = y 18 b) (h19 : ∀ b, b < 6 → y' 19 b = y 19 b) (hs : SR x' y') (h12 : y' 15 12 = x' 0 6) (h14 : y' 15 14 = x' 0 7) (hst : ST ns' x' y') : RB E ns' x' y' := by
  obtain ⟨h1, h2, h3, -⟩ := h
  have hn6 := hE.2.2.2.2.1 3 (by decide)
  refine ⟨fun b hb' k hk => ?_, fun b hb' => ?_, fun b hb' => ?_, hs, h12, h14, hst⟩
  · have hl := hE.2.2.2.2.2.1 b (by omega)
    rw [h17 _ (by omega), hb b (by omega)]; exact h1 b hb' k hk
  · rw [h18 b (by omega), ho b (by omega)]; exact h2 b hb'
  · rw [h19 b (by omega), ho b (by omega)]; exact h3 b hb'
/-! indices and bounds, as both sides test them -/
theorem ix3 (a : Int32) {n : Nat} (hn : n < 1000) : ((a < 0 ∨ ¬ a < 0 ∧ nI n ≤ a) ∧ btw a 0 (nI n - 1) = 0) ∨ ∃ j, j < n ∧ a = nI j ∧ ¬ a < 0 ∧ ¬ nI n ≤ a ∧ a < nI n ∧ btw a 0 (nI n - 1) = 1 := by
  by_cases c : btw a 0 (nI n - 1) = 0
  · refine Or.inl ⟨?_, c⟩
    by_cases h0 : a < 0
    · exact Or.inl h0
    · refine Or.inr ⟨h0, ?_⟩
      unfold btw at c
      rw [if_neg h0] at c
      by_cases h1 : nI n - 1 < a
      · have := Int32.lt_iff_toInt_lt.mp h1
        rw [sub1_toInt hn] at this
        rw [Int32.le_iff_toInt_le, nI_toInt (by omega)]
        omega
      · rw [if_neg h1] at c
        exact absurd c (by decide)
  · obtain ⟨j, hj, rfl⟩ := btw_ix hn c
    obtain ⟨h1, h2⟩ := btw_in c
    refine Or.inr ⟨j, hj, rfl, h1, nI_ge hj (by omega), nI_lt hj (by omega), ?_⟩
    unfold btw
    rw [if_neg h1, if_neg h2]
theorem out_btw (x a b : Int32) : (out x a b = 0 ∧ ¬ btw x a b = 0) ∨ (¬ out x a b = 0 ∧ btw x a b = 0) := by
  unfold out btw
  by_cases h1 : x < a
  · rw [if_pos h1, if_pos h1]; exact Or.inr ⟨by decide, rfl⟩
  · rw [if_neg h1, if_neg h1]
    by_cases h2 : x ≤ b
    · rw [if_pos h2, if_neg (fun q => absurd (Int32.lt_of_lt_of_le q h2) Int32.lt_irrefl)]; exact Or.inl ⟨rfl, by decide⟩
    · rw [if_neg h2, if_pos (Int32.not_le.mp h2)]; exact Or.inr ⟨by decide, rfl⟩
theorem out_bd {x a b : Int32} (h : out x a b = 0) : bd x a.toInt b.toInt := by
  obtain ⟨h1, h2⟩ := out_in h
  refine ⟨?_, Int32.le_iff_toInt_le.mp h2⟩
  have h1 : ¬ x.toInt < a.toInt := fun q => h1 (Int32.lt_iff_toInt_lt.mpr q)
  omega
theorem has3 {E : Ev} (hE : EO E) (hN : EN E) (a : Int32) : (lhas E 0 a = 0 ∧ mbd E a = 0) ∨ ∃ j, j < eNb E 3 ∧ a = nI j ∧ ¬ lhas E 0 a = 0 ∧ ¬ mbd E a = 0 := by
  have hn6 := hE.2.2.2.2.1 3 (by decide)
  rcases ix3 a (n := eNb E 3) (by omega) with ⟨h, q⟩ | ⟨j, hj, e, h0, h1, h2, q⟩
  · refine Or.inl ⟨?_, q⟩
    unfold lhas
    rw [hN.1]
    rcases h with h | ⟨h, h2⟩
    · rw [if_pos h]
    · rw [if_neg h, if_pos h2]
  · refine Or.inr ⟨j, hj, e, ?_, ?_⟩
    · unfold lhas
      rw [hN.1, if_neg h0, if_neg h1]
      decide
    · unfold mbd
      rw [q]
      decide
/-! answers that change nothing -/
theorem q_av {E : Ev} {ns : Nat} {v : Mem} (h : INV E ns v) (a : Int32) : mav E v a = kav E v a := by
  obtain ⟨hE, hX, hN, h8, hr, hf, hp⟩ := h
  have hn6 := hE.2.2.2.2.1 3 (by decide)
  unfold mav kav
  rcases has3 hE hN a with ⟨h1, h2⟩ | ⟨j, hj, rfl, h1, h2⟩
  · rw [if_pos h1, if_pos h2]
  · rw [if_neg h1, if_neg h2, nI_clamp (by omega)]
    exact avg_eq hE hr.1 hj
theorem q_str {E : Ev} {ns : Nat} {v : Mem} (h : INV E ns v) (a : Int32) : mst E v a = kstr E v a := by
  obtain ⟨hE, hX, hN, h8, hr, hf, hp⟩ := h
  have hn6 := hE.2.2.2.2.1 3 (by decide)
  unfold mst kstr
  rcases has3 hE hN a with ⟨h1, h2⟩ | ⟨j, hj, rfl, h1, h2⟩
  · rw [if_pos h1, if_pos h2]
  · rw [if_neg h1, if_neg h2, nI_clamp (by omega)]
    exact str_eq hE hr.1 hj
theorem q_chk {E : Ev} {ns : Nat} {v : Mem} (h : INV E ns v) (a : Int32) : mfld E v 18 a = kfld E v 1 a := by
  obtain ⟨hE, hX, hN, h8, hr, hf, hp⟩ := h
  have hn6 := hE.2.2.2.2.1 3 (by decide)
  unfold mfld kfld
  rcases has3 hE hN a with ⟨h1, h2⟩ | ⟨j, hj, rfl, h1, h2⟩
  · rw [if_pos h1, if_pos h2]
  · rw [if_neg h1, if_neg h2, nI_clamp (by omega)]
    exact hr.2.1 j hj
theorem q_air {E : Ev} {ns : Nat} {v : Mem} (h : INV E ns v) (a : Int32) : mfld E v 19 a = kfld E v 2 a := by
  obtain ⟨hE, hX, hN, h8, hr, hf, hp⟩ := h
  have hn6 := hE.2.2.2.2.1 3 (by decide)
  unfold mfld kfld
  rcases has3 hE hN a with ⟨h1, h2⟩ | ⟨j, hj, rfl, h1, h2⟩
  · rw [if_pos h1, if_pos h2]
  · rw [if_neg h1, if_neg h2, nI_clamp (by omega)]
    exact hr.2.2.1 j hj
theorem q_lm {E : Ev} {ns : Nat} {v : Mem} (h : INV E ns v) (a b : Int32) : mlm E v a b = klm E v a b := by
  obtain ⟨hE, hX, hN, h8, hr, hf, hp⟩ := h
  have hn6 := hE.2.2.2.2.1 3 (by decide)
  unfold mlm klm mcl
  rcases has3 hE hN a with ⟨h1, h2⟩ | ⟨j, hj, rfl, h1, h2⟩
  · rw [if_pos h1, if_pos h2, if_neg (by decide)]
  · have hl := hE.2.2.2.2.2.1 j (by omega)
    rw [if_neg h1, if_neg h2, nI_clamp (by omega)]
    rcases ix3 b (n := eLn E j) (by omega) with ⟨c, q⟩ | ⟨k, hk, rfl, c0, c1, c2, q⟩
    · rw [if_pos q, if_neg (by decide)]
      rcases c with c | ⟨c, c2⟩
      · rw [if_pos c]
      · rw [if_neg c, if_pos c2]
    · have q1 : ¬ btw (nI k) 0 (nI (eLn E j) - 1) = 0 := by rw [q]; decide
      rw [if_neg q1, if_pos (by decide), if_neg c0, if_neg c1, nI_clamp (by omega)]
      exact hr.1 j hj k hk
theorem q_wb {E : Ev} {ns : Nat} {v : Mem} (h : INV E ns v) : mwb E v (eNb E 3) = lwb E v 0 (eNb E 0) := by
  obtain ⟨hE, hX, hN, h8, hr, hf, hp⟩ := h
  rw [hN.1]
  exact (wb_eq hE hN.1 hr.1 hp.2.2.2 _ (Nat.le_refl _)).1
theorem q_wat {E : Ev} {ns : Nat} {v : Mem} (h : INV E ns v) : mwat E v (eNb E 3) = lwat E v 0 (eNb E 0) := by
  obtain ⟨hE, hX, hN, h8, hr, hf, hp⟩ := h
  rw [hN.1]
  have : ∀ t, t ≤ eNb E 3 → mwat E v t = lwat E v 0 t := by
    intro t
    induction t with
    | zero => intro _; rfl
    | succ t ih =>
      intro ht
      simp only [mwat, lwat]
      rw [ih (by omega), psum_congr (f := mrow v t) (g := v (ba 0 t)) (fun k hk => hr.1 t (by omega) k hk)]
  exact this _ (Nat.le_refl _)
theorem q_se {E : Ev} {ns : Nat} {v : Mem} (h : INV E ns v) (a : Int32) : mse E v a = kse E v a := by
  obtain ⟨hE, hX, hN, h8, hr, hf, hp⟩ := h
  have hn6 := hE.2.2.2.2.1 3 (by decide)
  have eall : kall E = mall E := by unfold kall mall; rw [hN.1]
  have ems : ∀ a t, t ≤ eNb E 3 → mms E v a t = lms E v 0 a t := by
    intro a t
    induction t with
    | zero => intro _; rfl
    | succ t ih =>
      intro ht
      simp only [mms, lms]
      rw [ih (by omega), avg_eq hE hr.1 (by omega)]
  have em : ∀ a, ¬ a = 0 → a &&& (mall E ^^^ -1) = 0 → mmean E v a = lmean E v 0 a := by
    intro a h0 h1
    obtain ⟨b1, b2⟩ := bits_ok (n := eNb E 3) (by omega) h0 h1
    unfold mmean lmean quo
    rw [hN.1, b2, if_neg b1, ems a _ (Nat.le_refl _)]
  unfold mse kse
  rw [eall]
  by_cases h0 : a = 0
  · rw [if_pos h0, if_pos h0]
  · rw [if_neg h0, if_neg h0]
    by_cases h1 : a &&& (mall E ^^^ -1) = 0
    · rw [if_pos h1, if_pos h1, em a h0 h1, em (mall E) (bits_ne (n := eNb E 3) (by omega) h0 h1) (bits_all (eNb E 3) (by omega))]
    · rw [if_neg h1, if_neg h1]
theorem q_fan {E : Ev} {ns : Nat} {v : Mem} (h : INV E ns v) : (if v 15 10 = 0 then (0 : Int32) else 1) = if v 5 0 = 0 then 0 else 1 := by
  rw [show v 15 10 = v 5 0 from h.2.2.2.2.2.1.1]
theorem q_hour {E : Ev} {ns : Nat} {v : Mem} (h : INV E ns v) : v 15 12 = v 0 6 := h.2.2.2.2.1.2.2.2.2.1
theorem q_evap {E : Ev} {ns : Nat} {v : Mem} (h : INV E ns v) : v 15 14 = v 0 7 := h.2.2.2.2.1.2.2.2.2.2.1
theorem q_ns {E : Ev} {ns : Nat} {v : Mem} (h : INV E ns v) : v 2 2 = nI ns ∧ v 15 16 = nI ns := ⟨h.2.2.2.2.1.2.2.2.2.2.2.1, h.2.2.2.2.1.2.2.2.2.2.2.2.1⟩
theorem q_cs {E : Ev} {ns : Nat} {v : Mem} (h : INV E ns v) : mcsx E v ns = kcs E v ns := by
  obtain ⟨hE, hX, hN, h8, hr, hf, hp⟩ := h
  exact cs_eq hE hN.1 hr.1 hr.2.2.2.2.2.2 (fun t ht => (hp.2.1 t ht).1.nn (Int.le_refl _))

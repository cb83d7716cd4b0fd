/-! the model's schedule and plan -/
def masr (v : Mem) (ns : Nat) (a b : Int32) : Int32 := if btw a 0 2000 = 0 then -1000003 else if 0 < ns ∧ v 21 (ns - 1) ≤ a then -1000003 else if btw b 0 300 = 0 then -1000003 else if ns < 8 then nI ns else -1000004
def masm (v : Mem) (ns : Nat) (a b : Int32) : Mem := if btw a 0 2000 = 0 then v else if 0 < ns ∧ v 21 (ns - 1) ≤ a then v else if btw b 0 300 = 0 then v else if ns < 8 then st (st (st v 21 ns a) 22 ns b) 15 16 (nI (ns + 1)) else v
def mss (E : Ev) (v : Mem) : Nat → Int32
  | 0 => -1000005
  | t + 1 => if v 21 t < mavg E v (mwi E v (eNb E 3)) then mss E v t else nI t
def mcsx (E : Ev) (v : Mem) (t : Nat) : Int32 := if eNb E 3 = 0 then -1000005 else mss E v t
theorem mcsx_0 (E : Ev) (v : Mem) : -1000005 = mcsx E v 0 := by
  unfold mcsx
  split <;> rfl
theorem mcsx_lt {E : Ev} {v : Mem} {t : Nat} (h0 : eNb E 3 ≠ 0) (c : v 21 t < mavg E v (mwi E v (eNb E 3))) : mcsx E v (t + 1) = mcsx E v t := by
  unfold mcsx
  rw [if_neg h0, if_neg h0, mss, if_pos c]
theorem mcsx_ge {E : Ev} {v : Mem} {t : Nat} (h0 : eNb E 3 ≠ 0) (c : ¬ v 21 t < mavg E v (mwi E v (eNb E 3))) : mcsx E v (t + 1) = nI t := by
  unfold mcsx
  rw [if_neg h0, mss, if_neg c]
theorem mcsx_00 {E : Ev} {v : Mem} (t : Nat) (h0 : eNb E 3 = 0) : mcsx E v t = -1000005 := if_pos h0
theorem mcsx_ix {E : Ev} {v : Mem} : ∀ {t : Nat}, ¬ mcsx E v t = -1000005 → ∃ q, q < t ∧ mcsx E v t = nI q
  | 0, h => absurd (mcsx_0 E v).symm h
  | t + 1, h => by
    by_cases h0 : eNb E 3 = 0
    · exact absurd (mcsx_00 _ h0) h
    · by_cases c : v 21 t < mavg E v (mwi E v (eNb E 3))
      · rw [mcsx_lt h0 c] at h ⊢
        obtain ⟨q, hq, e⟩ := mcsx_ix h
        exact ⟨q, by omega, e⟩
      · exact ⟨t, by omega, mcsx_ge h0 c⟩
def mwt (E : Ev) (v : Mem) (a : Int32) : Int32 := if eNb E 3 = 0 then 0 else if mavg E v (mwi E v (eNb E 3)) ≤ a then 0 else 1
def msi (E : Ev) (v : Mem) (ns : Nat) : Int32 := if mcsx E v ns = -1000005 then v 15 9 else v 22 (mcsx E v ns).toNatClampNeg
def mrn (E : Ev) (ns : Nat) (a : Int32) : Nat → Mem → Mem × Nat
  | 0, v => (v, 0)
  | n + 1, v => if mwt E v a = 0 then (v, 0) else ((mrn E ns a n (mdh E (msi E v ns) v)).1, (mrn E ns a n (mdh E (msi E v ns) v)).2 + 1)
def msdr (E : Ev) (v : Mem) (ns : Nat) (a b : Int32) : Int32 := if btw a 0 2000 = 0 then -1000003 else if btw b 1 200 = 0 then -1000003 else nI (mrn E ns a b.toNatClampNeg v).2
def msdm (E : Ev) (v : Mem) (ns : Nat) (a b : Int32) : Mem := if btw a 0 2000 = 0 then v else if btw b 1 200 = 0 then v else (mrn E ns a b.toNatClampNeg v).1
def mcpy (v : Mem) (ka kb N : Nat) : Mem := va_up v kb (fun q => if q < N then v ka q else v kb q)
theorem mcpy_ne (v : Mem) (ka N : Nat) {kb q : Nat} (_ : True) (h : q ≠ kb) : mcpy v ka kb N q = v q := up_ne _ _ h
theorem mcpy_0 (v : Mem) (ka kb : Nat) : mcpy v ka kb 0 = v := by
  unfold mcpy
  rw [show (fun q => if q < 0 then v ka q else v kb q) = v kb from funext (fun q => if_neg (by omega)), up_self]
theorem mcpy_s (v : Mem) (ka kb t : Nat) : st (mcpy v ka kb t) kb t (v ka t) = mcpy v ka kb (t + 1) := by
  unfold mcpy
  rw [st_up]
  congr 1
  funext q
  unfold upd
  by_cases h : q = t
  · subst h
    rw [if_pos rfl, if_pos (by omega)]
  · rw [if_neg h]
    show (if q < t then v ka q else v kb q) = _
    by_cases h2 : q < t
    · rw [if_pos h2, if_pos (by omega)]
    · rw [if_neg h2, if_neg (by omega)]
def mis (E : Ev) (v : Mem) : Nat → Nat → Int32
  | 0, _ => 0
  | n + 1, t => if mstr E v t ≤ v 15 8 then mis E v n (t + 1) else 1
def mph (E : Ev) : Nat → Nat → Mem → Mem × Int32
  | 0, _, w => (mrst E w, -1000006)
  | n + 1, t, w => if mis E (mblm E (nI (10 * t)) w) (eNb E 3) 0 = 0 then (med (mblm E (nI (10 * t)) w), nI (10 * t)) else mph E n (t + 1) (mcpy (mblm E (nI (10 * t)) w) 25 17 54)
def mpl (E : Ev) (w : Mem) : Mem × Int32 := mph E 31 0 (mcpy w 17 25 54)
theorem mblm_ne (E : Ev) (a : Int32) (v : Mem) {q : Nat} (h1 : q ≠ 17) (h2 : q ≠ 20) (h3 : q ≠ 19) : mblm E a v q = v q := mbp_ne E a v h1 h2 h3 _
theorem mph_15 (E : Ev) {j : Nat} (h1 : j ≠ 13) (h2 : j ≠ 10) : ∀ (n t : Nat) (w : Mem), (mph E n t w).1 15 j = w 15 j
  | 0, _, w => by
    show mrs E w _ 15 j = w 15 j
    rw [mrs_ne E w (by decide) (by decide)]
  | n + 1, t, w => by
    simp only [mph]
    split
    · show med _ 15 j = w 15 j
      rw [med_15 _ h1 h2, mblm_ne E _ _ (by decide) (by decide) (by decide)]
    · rw [mph_15 E h1 h2 n (t + 1), mcpy_ne _ _ _ trivial (by decide), mblm_ne E _ _ (by decide) (by decide) (by decide)]
theorem mpl_15 (E : Ev) {j : Nat} (h1 : j ≠ 13) (h2 : j ≠ 10) (w : Mem) : (mpl E w).1 15 j = w 15 j := by
  rw [mpl, mph_15 E h1 h2, mcpy_ne _ _ _ trivial (by decide)]
theorem mph_go (E : Ev) (n t : Nat) (w : Mem) (h : mis E (mblm E (nI (10 * t)) w) (eNb E 3) 0 = 0) : mph E (n + 1) t w = (med (mblm E (nI (10 * t)) w), nI (10 * t)) := if_pos h
def mps (E : Ev) (t : Nat) (w : Mem) : Mem := st (st (mpl E w).1 26 t (mpl E w).2) 15 23 (nI (t + 1))
def mpn (E : Ev) (a : Int32) : Nat → Nat → Mem → Mem × Nat
  | 0, t, w => (w, t)
  | n + 1, t, w => if mwt E w a = 0 then (w, t) else mpn E a n (t + 1) (mps E t w)
theorem mpn_23 (E : Ev) (a : Int32) : ∀ (n t : Nat) (w : Mem), w 15 23 = nI t → (mpn E a n t w).2 ≤ t + n ∧ (mpn E a n t w).1 15 23 = nI (mpn E a n t w).2
  | 0, t, w, h => ⟨Nat.le_refl _, h⟩
  | n + 1, t, w, h => by
    simp only [mpn]
    split
    · exact ⟨by show t ≤ _; omega, h⟩
    · have := mpn_23 E a n (t + 1) (mps E t w) (st_at _ _ _ _)
      exact ⟨by omega, this.2⟩
def mst0 (v : Mem) : Mem := st (mcpy (mcpy v 17 23 54) 19 24 6) 15 23 0
def mfin (v w : Mem) : Mem := st (st (mcpy (mcpy w 23 17 54) 24 19 6) 15 10 (v 15 10)) 15 13 (v 15 13)
def mfm (E : Ev) (v : Mem) (a : Int32) : Mem := mfin v (mpn E a 300 0 (mst0 v)).1
def mfr (E : Ev) (v : Mem) (a : Int32) : Int32 := if mwt E (mpn E a 300 0 (mst0 v)).1 a = 0 then 1 else 0
theorem mfm_23 (E : Ev) (v : Mem) (a : Int32) : mfm E v a 15 23 = nI (mpn E a 300 0 (mst0 v)).2 := by
  rw [mfm, mfin, st_nj _ _ _ (by decide), st_nj _ _ _ (by decide), mcpy_ne _ _ _ trivial (by decide), mcpy_ne _ _ _ trivial (by decide)]
  exact (mpn_23 E a 300 0 (mst0 v) (st_at _ _ _ _)).2
theorem mfm_le (E : Ev) (v : Mem) (a : Int32) : (mpn E a 300 0 (mst0 v)).2 ≤ 300 := by
  have := (mpn_23 E a 300 0 (mst0 v) (st_at _ _ _ _)).1
  omega
def mphr (E : Ev) (v : Mem) (a : Int32) : Int32 := if btw a 0 2000 = 0 then -1000003 else if mfr E v a = 0 then -1000005 else mfm E v a 15 23
def mphm (E : Ev) (v : Mem) (a : Int32) : Mem := if btw a 0 2000 = 0 then v else mfm E v a
def mpir (E : Ev) (v : Mem) (a b : Int32) : Int32 := if btw a 0 2000 = 0 then -1000003 else if 0 ≤ b then (if mfr E v a = 0 then -1000005 else if mfm E v a 15 23 ≤ b then -1000005 else mfm E v a 26 b.toNatClampNeg) else -1000003
def mpim (E : Ev) (v : Mem) (a b : Int32) : Mem := if btw a 0 2000 = 0 then v else if 0 ≤ b then mfm E v a else v
theorem plan_ix {E : Ev} {v : Mem} {a b : Int32} (h0 : 0 ≤ b) (h : ¬ mfm E v a 15 23 ≤ b) : ∃ q : Nat, q < 300 ∧ b = nI q := by
  have hle := mfm_le E v a
  rw [mfm_23] at h
  rcases pk_ix b (n := (mpn E a 300 0 (mst0 v)).2) (by omega) with q | q | q
  · exact absurd (Int32.lt_of_lt_of_le q h0) (Int32.lt_irrefl)
  · exact absurd q h
  · obtain ⟨j, hj, e⟩ := q
    exact ⟨j, by omega, e⟩

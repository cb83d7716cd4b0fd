/-! what the load's functions leave alone -/
theorem bdry_ne (E : Ev) {i j : Nat} (a : Int32) (v : Mem) {q : Nat} (h1 : q ≠ bo i j) (h2 : q ≠ ba i j) : bdry E i j a v q = v q := by
  rw [bdry, up_ne _ _ h2, st_ne _ _ _ h1]
theorem ldp_ne (E : Ev) {i : Nat} (a : Int32) (v : Mem) {q : Nat} (h1 : ∀ j, q ≠ bo i j) (h2 : ∀ j, q ≠ ba i j) : ∀ t, (ldp E i a v t).1 q = v q
  | 0 => rfl
  | t + 1 => by
    show bdry E i _ _ (ldp E i a v t).1 q = v q
    rw [bdry_ne E _ _ (h1 _) (h2 _), ldp_ne E a v h1 h2 t]
theorem lcnt_ne {i : Nat} (x : Int32) (v : Mem) {q : Nat} (h : q ≠ 5 + i) : lcnt i x v q = v q := by
  unfold lcnt
  by_cases h1 : x ≤ 0
  · rw [if_pos h1, st_ne _ _ _ h]
  · rw [if_neg h1]
    by_cases h2 : v (5 + i) 1 + 1 - (v (5 + i) 1 + 1) / x * x = 0
    · rw [if_pos h2, st_ne _ _ _ h, st_ne _ _ _ h]
    · rw [if_neg h2, st_ne _ _ _ h]
theorem ldry_ne (E : Ev) {i : Nat} (a : Int32) (v : Mem) {q : Nat} (h0 : q ≠ 5 + i) (h1 : ∀ j, q ≠ bo i j) (h2 : ∀ j, q ≠ ba i j) : ldry E i a v q = v q := by
  rw [ldry, lcnt_ne _ _ h0, ldp_ne E a v h1 h2]
theorem ldry_lo (E : Ev) {i : Nat} (a : Int32) (v : Mem) {q : Nat} (h : q < 100) (h0 : q ≠ 5 + i) : ldry E i a v q = v q := ldry_ne E a v h0 (fun _ => Ne.symm (ne_bl h)) (fun _ => Ne.symm (ne_al h))
theorem lcpy_lo (E : Ev) {i o : Nat} (v : Mem) {q : Nat} (h : q < 100) (h0 : q ≠ 5 + i) : lcpy E i o v q = v q := by
  rw [lcpy, st_ne _ _ _ h0, st_ne _ _ _ h0, lcp_ne E i o v (fun _ => Ne.symm (ne_al h))]
theorem lrs_ne (E : Ev) {i : Nat} (v : Mem) {q : Nat} (h : ∀ j, q ≠ ba i j) : ∀ t, lrs E i v t q = v q
  | 0 => rfl
  | t + 1 => by
    show brst E i t _ (lrs E i v t) q = v q
    rw [brst, up_ne _ _ (h t), lrs_ne E v h t]
theorem lrst_lo (E : Ev) {i : Nat} (v : Mem) {q : Nat} (h : q < 100) : lrst E i v q = v q := lrs_ne E v (fun _ => Ne.symm (ne_al h)) _
theorem lrc_ne (E : Ev) {i : Nat} (x h : Int32) (v : Mem) {q : Nat} (hq : ∀ j, q ≠ bo i j) : ∀ t, (lrc E i x h v t).1 q = v q
  | 0 => rfl
  | t + 1 => by
    have ih := lrc_ne E x h v hq t
    simp only [lrc]
    split
    · split
      · exact ih
      · show st _ _ _ _ q = v q
        rw [st_ne _ _ _ (hq t)]
        exact ih
    · exact ih
theorem isB_ntg (x : Int32) : isB (ntg x) := by
  unfold ntg
  split
  · exact Or.inr rfl
  · exact Or.inl rfl
theorem isB_lcnt {i : Nat} {x : Int32} {v : Mem} (h : isB (v (5 + i) 0)) : isB (lcnt i x v (5 + i) 0) := by
  unfold lcnt
  split
  · rw [st_nj _ _ _ (by decide)]; exact h
  · split
    · rw [st_at]; exact isB_ntg _
    · rw [st_nj _ _ _ (by decide)]; exact h
theorem isB_ldry (E : Ev) {i : Nat} (hi : i < 3) {a : Int32} {v : Mem} (h : isB (v (5 + i) 0)) : isB (ldry E i a v (5 + i) 0) := by
  unfold ldry
  refine isB_lcnt ?_
  rw [ldp_ne E a v (fun _ => Ne.symm (ne_bl (by omega))) (fun _ => Ne.symm (ne_al (by omega)))]
  exact h
theorem isB_lcpy (E : Ev) {i o : Nat} {v : Mem} (h : isB (v (5 + o) 0)) : isB (lcpy E i o v (5 + i) 0) := by
  rw [lcpy, st_nj _ _ _ (by decide), st_at]
  exact h
theorem lhas_ne {E : Ev} {i : Nat} {a : Int32} (hn : eNb E i ≤ 6) (h : ¬ lhas E i a = 0) : ∃ j, j < eNb E i ∧ a = nI j := by
  unfold lhas at h
  rcases pk_ix a (n := eNb E i) (by omega) with q | q | q
  · rw [if_pos q] at h; exact absurd rfl h
  · by_cases h0 : a < 0
    · rw [if_pos h0] at h; exact absurd rfl h
    · rw [if_neg h0, if_pos q] at h; exact absurd rfl h
  · exact q
theorem out_in {a lo hi : Int32} (h : out a lo hi = 0) : ¬ a < lo ∧ a ≤ hi := by
  unfold out at h
  by_cases h1 : a < lo
  · rw [if_pos h1] at h; exact absurd h (by decide)
  · rw [if_neg h1] at h
    by_cases h2 : a ≤ hi
    · exact ⟨h1, h2⟩
    · rw [if_neg h2] at h; exact absurd h (by decide)
theorem out_200 {a : Int32} (h : out a 1 200 = 0) : ∃ N, N ≤ 200 ∧ a = nI N := by
  obtain ⟨h1, h2⟩ := out_in h
  exact nI_of2 (M := 200) (by decide) (fun h => h1 (Int32.lt_iff_toInt_lt.mpr (by have := Int32.lt_iff_toInt_lt.mp h; have e0 : (0 : Int32).toInt = 0 := (by decide); have e1 : (1 : Int32).toInt = 1 := (by decide); omega))) h2
/-! the kiln -/
def kav (E : Ev) (v : Mem) (a : Int32) : Int32 := if lhas E 0 a = 0 then -1000001 else lavg E v 0 a.toNatClampNeg
def kstr (E : Ev) (v : Mem) (a : Int32) : Int32 := if lhas E 0 a = 0 then -1000001 else pstr (v (ba 0 a.toNatClampNeg)) (eLn E a.toNatClampNeg)
def kfld (E : Ev) (v : Mem) (f : Nat) (a : Int32) : Int32 := if lhas E 0 a = 0 then -1000001 else v (bo 0 a.toNatClampNeg) f
def klm (E : Ev) (v : Mem) (a b : Int32) : Int32 := if lhas E 0 a = 0 then -1000001 else if b < 0 then -1000002 else if nI (eLn E a.toNatClampNeg) ≤ b then -1000002 else v (ba 0 a.toNatClampNeg) b.toNatClampNeg
def kslr (E : Ev) (v : Mem) (a b d : Int32) : Int32 := if lhas E 0 a = 0 then -1000001 else if b < 0 then -1000002 else if b < nI (eLn E a.toNatClampNeg) then (if out d 0 2000 = 0 then v (ba 0 a.toNatClampNeg) b.toNatClampNeg else -1000003) else -1000002
def kslm (E : Ev) (v : Mem) (a b d : Int32) : Mem := if lhas E 0 a = 0 then v else if b < 0 then v else if b < nI (eLn E a.toNatClampNeg) then (if out d 0 2000 = 0 then st v (ba 0 a.toNatClampNeg) b.toNatClampNeg d else v) else v
def kall (E : Ev) : Int32 := (1 <<< (nI (eNb E 0) &&& 31)) - 1
def kse (E : Ev) (v : Mem) (a : Int32) : Int32 := if a = 0 then -1000003 else if a &&& (kall E ^^^ -1) = 0 then lmean E v 0 a - lmean E v 0 (kall E) else -1000003
def ksr (v : Mem) (j : Nat) (a lo hi : Int32) : Int32 := if out a lo hi = 0 then v 1 j else -1000003
def ksm (v : Mem) (j : Nat) (a lo hi : Int32) : Mem := if out a lo hi = 0 then st v 1 j a else v
def kend (E : Ev) (v : Mem) : Mem × Int32 := lrc E 0 (v 1 3) (v 0 6 + 1) (st v 0 6 (v 0 6 + 1)) (eNb E 0)
def krh (E : Ev) (a : Int32) (v : Mem) : Mem := (kend E (st (ldry E 0 a v) 0 7 (v 0 7 + lgiv E 0 a v))).1
def kdp (E : Ev) (v : Mem) : Nat → Mem × Int32
  | 0 => (v, 0)
  | t + 1 => (krh E ((kdp E v t).1 1 4) (kdp E v t).1, (kdp E v t).2 + lgiv E 0 ((kdp E v t).1 1 4) (kdp E v t).1)
def kdr (E : Ev) (v : Mem) (a : Int32) : Int32 := if out a 1 200 = 0 then (kdp E v a.toNatClampNeg).2 else -1000003
def kdm (E : Ev) (v : Mem) (a : Int32) : Mem := if out a 1 200 = 0 then (kdp E v a.toNatClampNeg).1 else v
def krp (E : Ev) (v : Mem) : Nat → Mem × Int32
  | 0 => (v, 0)
  | t + 1 => ((kend E (lrst E 0 (krp E v t).1)).1, (krp E v t).2 + (kend E (lrst E 0 (krp E v t).1)).2)
def krr (E : Ev) (v : Mem) (a : Int32) : Int32 := if out a 1 200 = 0 then (krp E v a.toNatClampNeg).2 else -1000003
def krm (E : Ev) (v : Mem) (a : Int32) : Mem := if out a 1 200 = 0 then (krp E v a.toNatClampNeg).1 else v
def kasr (v : Mem) (ns : Nat) (a b : Int32) : Int32 := if out a 0 2000 = 0 then (if out b 0 300 = 0 then sappr v ns a else -1000003) else -1000003
def kasm (v : Mem) (ns : Nat) (a b : Int32) : Mem := if out a 0 2000 = 0 then (if out b 0 300 = 0 then sappm v ns a b else v) else v
def kcs (E : Ev) (v : Mem) (ns : Nat) : Int32 := if nI (eNb E 0) = 0 then -1000005 else sst v (lga E v 0 (eNb E 0)) ns
def ksi (E : Ev) (v : Mem) (ns : Nat) : Int32 := sinl v (kcs E v ns) (v 1 4)
def krs (E : Ev) (ns : Nat) (a : Int32) : Nat → Mem → Mem × Nat
  | 0, v => (v, 0)
  | n + 1, v => if iwt E v 0 a = 0 then (v, 0) else ((krs E ns a n (krh E (ksi E v ns) v)).1, (krs E ns a n (krh E (ksi E v ns) v)).2 + 1)
def ksdr (E : Ev) (v : Mem) (ns : Nat) (a b : Int32) : Int32 := if out a 0 2000 = 0 then (if out b 1 200 = 0 then nI (krs E ns a b.toNatClampNeg v).2 else -1000003) else -1000003
def ksdm (E : Ev) (v : Mem) (ns : Nat) (a b : Int32) : Mem := if out a 0 2000 = 0 then (if out b 1 200 = 0 then (krs E ns a b.toNatClampNeg v).1 else v) else v
/-- an inlet moisture is tried on the third load -/
def ktry (E : Ev) (t : Nat) (w : Mem) : Mem := ldry E 2 (nI (10 * t)) (lcpy E 2 1 w)
def kch (E : Ev) : Nat → Nat → Mem → Mem × Int32
  | 0, _, w => (w, -1000006)
  | n + 1, t, w => if ktry E t w 1 3 < lgg E (ktry E t w) 2 (eNb E 2) then kch E n (t + 1) (ktry E t w) else (ktry E t w, nI (10 * t))
def kps (E : Ev) (t : Nat) (w : Mem) : Mem := if (kch E 31 0 w).2 = -1000006 then lrst E 1 (st (kch E 31 0 w).1 11 t (kch E 31 0 w).2) else lcpy E 1 2 (st (kch E 31 0 w).1 11 t (kch E 31 0 w).2)
def kpn (E : Ev) (a : Int32) : Nat → Nat → Mem → Mem × Nat
  | 0, t, w => (w, t)
  | n + 1, t, w => if iwt E w 1 a = 0 then (w, t) else kpn E a n (t + 1) (kps E t w)
def kplm (E : Ev) (v : Mem) (a : Int32) : Mem := (kpn E a 300 0 (lcpy E 1 0 v)).1
def kplr (E : Ev) (v : Mem) (a : Int32) : Int32 := if iwt E (kplm E v a) 1 a = 0 then nI (kpn E a 300 0 (lcpy E 1 0 v)).2 else -1000005
def kphr (E : Ev) (v : Mem) (a : Int32) : Int32 := if out a 0 2000 = 0 then kplr E v a else -1000003
def kphm (E : Ev) (v : Mem) (a : Int32) : Mem := if out a 0 2000 = 0 then kplm E v a else v
def kpir (E : Ev) (v : Mem) (a b : Int32) : Int32 := if out a 0 2000 = 0 then (if 0 ≤ b then (if kplr E v a ≤ b then -1000005 else if nI 300 ≤ b then -1000005 else kplm E v a 11 b.toNatClampNeg) else -1000003) else -1000003
def kpim (E : Ev) (v : Mem) (a b : Int32) : Mem := if out a 0 2000 = 0 then (if 0 ≤ b then kplm E v a else v) else v
theorem kend_lo (E : Ev) (v : Mem) {q : Nat} (h : q < 100) (h0 : q ≠ 0) : (kend E v).1 q = v q := by
  rw [kend, lrc_ne E _ _ _ (fun _ => Ne.symm (ne_bl h)), st_ne _ _ _ h0]
theorem krh_lo (E : Ev) (a : Int32) (v : Mem) {q : Nat} (h : q < 100) (h0 : q ≠ 0) (h5 : q ≠ 5) : krh E a v q = v q := by
  rw [krh, kend_lo E _ h h0, st_ne _ _ _ h0, ldry_lo E _ _ h h5]
theorem ktry_lo (E : Ev) (t : Nat) (w : Mem) {q : Nat} (h : q < 100) (h7 : q ≠ 7) : ktry E t w q = w q := by
  rw [ktry, ldry_lo E _ _ h h7, lcpy_lo E _ h h7]
theorem kch_lo (E : Ev) {q : Nat} (h : q < 100) (h7 : q ≠ 7) : ∀ (n t : Nat) (w : Mem), (kch E n t w).1 q = w q
  | 0, _, _ => rfl
  | n + 1, t, w => by
    simp only [kch]
    split
    · rw [kch_lo E h h7 n (t + 1), ktry_lo E t w h h7]
    · exact ktry_lo E t w h h7
theorem isB_ktry (E : Ev) (t : Nat) {w : Mem} (h : isB (w 6 0)) : isB (ktry E t w 7 0) := isB_ldry E (by decide) (isB_lcpy E (i := 2) (o := 1) h)
theorem kch_isB (E : Ev) : ∀ (n t : Nat) (w : Mem), isB (w 6 0) → ¬ (kch E n t w).2 = -1000006 → isB ((kch E n t w).1 7 0)
  | 0, _, _, _, h => absurd rfl h
  | n + 1, t, w, hw, h => by
    simp only [kch] at h ⊢
    split
    · rename_i h1
      rw [if_pos h1] at h
      exact kch_isB E n (t + 1) (ktry E t w) (by rw [ktry_lo E t w (by decide) (by decide)]; exact hw) h
    · exact isB_ktry E t hw
theorem kps_isB (E : Ev) (t : Nat) {w : Mem} (hw : isB (w 6 0)) : isB (kps E t w 6 0) := by
  unfold kps
  split
  · rw [lrst_lo E _ (by decide), st_ne _ _ _ (by decide), kch_lo E (by decide) (by decide)]
    exact hw
  · rename_i h
    refine isB_lcpy E (i := 1) (o := 2) ?_
    show isB (st _ 11 t _ 7 0)
    rw [st_ne _ _ _ (by decide)]
    exact kch_isB E 31 0 w hw h
theorem kch_stop (E : Ev) (n t : Nat) (w : Mem) (h : ¬ ktry E t w 1 3 < lgg E (ktry E t w) 2 (eNb E 2)) : kch E (n + 1) t w = (ktry E t w, nI (10 * t)) := if_neg h

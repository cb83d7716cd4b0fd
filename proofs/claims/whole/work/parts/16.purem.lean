/-! the model's functions -/
theorem nI_9 (n : Nat) : 9 * nI n = nI (9 * n) := pk_mul 9 n
def mrow (v : Mem) (b : Nat) : Nat → Int32 := fun k => v 17 (9 * b + k)
def btw (x a b : Int32) : Int32 := if x < a then 0 else if b < x then 0 else 1
def mbd (E : Ev) (a : Int32) : Int32 := btw a 0 (nI (eNb E 3) - 1)
def mcl (E : Ev) (a b : Int32) : Int32 := if mbd E a = 0 then -1000001 else if btw b 0 (nI (eLn E a.toNatClampNeg) - 1) = 0 then -1000002 else 0
theorem btw_in {x a b : Int32} (h : ¬ btw x a b = 0) : ¬ x < a ∧ ¬ b < x := by
  unfold btw at h
  by_cases h1 : x < a
  · rw [if_pos h1] at h; exact absurd rfl h
  · rw [if_neg h1] at h
    by_cases h2 : b < x
    · rw [if_pos h2] at h; exact absurd rfl h
    · exact ⟨h1, h2⟩
theorem sub1_toInt {n : Nat} (h : n < 1000) : (nI n - 1).toInt = (n : Int) - 1 := by
  cases n with
  | zero => decide
  | succ n => rw [nI_pred, nI_toInt (by omega)]; omega
theorem btw_ix {a : Int32} {n : Nat} (hn : n < 1000) (h : ¬ btw a 0 (nI n - 1) = 0) : ∃ j, j < n ∧ a = nI j := by
  obtain ⟨h1, h2⟩ := btw_in h
  rcases pk_ix a (n := n) (by omega) with q | q | q
  · exact absurd q h1
  · refine absurd (Int32.lt_iff_toInt_lt.mpr ?_) h2
    have q2 := Int32.le_iff_toInt_le.mp q
    rw [nI_toInt (by omega)] at q2
    rw [sub1_toInt hn]
    omega
  · exact q
theorem mcl_ok {E : Ev} (hE : EO E) {a b : Int32} (h : 0 ≤ mcl E a b) : ∃ j q, j < eNb E 3 ∧ q < eLn E j ∧ a = nI j ∧ b = nI q := by
  have hn := hE.2.2.2.2.1 3 (by decide)
  unfold mcl at h
  by_cases h1 : mbd E a = 0
  · rw [if_pos h1] at h; exact absurd h (by decide)
  · obtain ⟨j, hj, rfl⟩ := btw_ix (by omega) h1
    have hln := hE.2.2.2.2.2.1 j (by omega)
    rw [if_neg h1, nI_clamp (by omega)] at h
    by_cases h2 : btw b 0 (nI (eLn E j) - 1) = 0
    · rw [if_pos h2] at h; exact absurd h (by decide)
    · obtain ⟨q, hq, rfl⟩ := btw_ix (by omega) h2
      exact ⟨j, q, hj, hq, rfl, rfl⟩
def mslr (E : Ev) (v : Mem) (a b d : Int32) : Int32 := if 0 ≤ mcl E a b then (if btw d 0 2000 = 0 then -1000003 else v 17 (9 * a.toNatClampNeg + b.toNatClampNeg)) else mcl E a b
def mslm (E : Ev) (v : Mem) (a b d : Int32) : Mem := if 0 ≤ mcl E a b then (if btw d 0 2000 = 0 then v else st v 17 (9 * a.toNatClampNeg + b.toNatClampNeg) d) else v
def mlm (E : Ev) (v : Mem) (a b : Int32) : Int32 := if 0 ≤ mcl E a b then v 17 (9 * a.toNatClampNeg + b.toNatClampNeg) else mcl E a b
def mavg (E : Ev) (v : Mem) (b : Nat) : Int32 := psum (mrow v b) (eLn E b) / nI (eLn E b)
def mmx (f : Nat → Int32) : Nat → Int32
  | 0 => 0
  | t + 1 => if f t ≤ mmx f t then mmx f t else f t
def mstr (E : Ev) (v : Mem) (b : Nat) : Int32 := mmx (mrow v b) (eLn E b) - (if mrow v b (eLn E b - 1) ≤ mrow v b 0 then mrow v b (eLn E b - 1) else mrow v b 0)
def mav (E : Ev) (v : Mem) (a : Int32) : Int32 := if mbd E a = 0 then -1000001 else mavg E v a.toNatClampNeg
def mst (E : Ev) (v : Mem) (a : Int32) : Int32 := if mbd E a = 0 then -1000001 else mstr E v a.toNatClampNeg
def mfld (E : Ev) (v : Mem) (k : Nat) (a : Int32) : Int32 := if mbd E a = 0 then -1000001 else v k a.toNatClampNeg
def mwi (E : Ev) (v : Mem) : Nat → Nat
  | 0 => 0
  | t + 1 => if t = 0 then 0 else if mavg E v t ≤ mavg E v (mwi E v t) then mwi E v t else t
def mwb (E : Ev) (v : Mem) (t : Nat) : Int32 := if t = 0 then -1000005 else nI (mwi E v t)
theorem mwi_lt (E : Ev) (v : Mem) : ∀ t, 0 < t → mwi E v t < t
  | 0, h => absurd h (by decide)
  | t + 1, _ => by
    simp only [mwi]
    split
    · omega
    · rename_i h
      have := mwi_lt E v t (by omega)
      split <;> omega
theorem nI_none {n : Nat} (h : n < 1000) : ¬ nI n = -1000005 := fun q => by
  have e := congrArg Int32.toInt q
  rw [nI_toInt (by omega)] at e
  have e2 : (-1000005 : Int32).toInt = -1000005 := by decide
  omega
theorem mwb_0 {E : Ev} {v : Mem} {t : Nat} (ht : t < 1000) (h : mwb E v t = -1000005) : t = 0 := by
  unfold mwb at h
  by_cases h0 : t = 0
  · exact h0
  · rw [if_neg h0] at h
    have := mwi_lt E v t (by omega)
    exact absurd h (nI_none (by omega))
theorem mwb_n {E : Ev} {v : Mem} {t : Nat} (h : ¬ mwb E v t = -1000005) : t ≠ 0 := fun q => h (by unfold mwb; rw [if_pos q])
theorem mw_a (E : Ev) (v : Mem) {t : Nat} (h : t = 0) : mwb E v (t + 1) = nI t := by
  subst h
  rfl
theorem mw_b (E : Ev) (v : Mem) {t : Nat} (h : t ≠ 0) (c : mavg E v t ≤ mavg E v (mwi E v t)) : mwb E v (t + 1) = nI (mwi E v t) := by
  unfold mwb
  rw [if_neg (by omega), mwi, if_neg h, if_pos c]
theorem mw_c (E : Ev) (v : Mem) {t : Nat} (h : t ≠ 0) (c : ¬ mavg E v t ≤ mavg E v (mwi E v t)) : mwb E v (t + 1) = nI t := by
  unfold mwb
  rw [if_neg (by omega), mwi, if_neg h, if_neg c]
def mwat (E : Ev) (v : Mem) : Nat → Int32
  | 0 => 0
  | t + 1 => mwat E v t + psum (mrow v t) (eLn E t)
def mms (E : Ev) (v : Mem) (a : Int32) : Nat → Int32
  | 0 => 0
  | t + 1 => if a >>> (nI t &&& 31) &&& 1 = 1 then mms E v a t + mavg E v t else mms E v a t
def mmc (a : Int32) : Nat → Int32
  | 0 => 0
  | t + 1 => if a >>> (nI t &&& 31) &&& 1 = 1 then mmc a t + 1 else mmc a t
def mmean (E : Ev) (v : Mem) (a : Int32) : Int32 := mms E v a (eNb E 3) / mmc a (eNb E 3)
def mall (E : Ev) : Int32 := (1 <<< (nI (eNb E 3) &&& 31)) - 1
def mse (E : Ev) (v : Mem) (a : Int32) : Int32 := if a = 0 then -1000003 else if a &&& (mall E ^^^ -1) = 0 then mmean E v a - mmean E v (mall E) else -1000003
theorem bits6 : ∀ n, n < 7 → ∀ m, m < 64 → ¬ nI m = 0 → nI m &&& (((1 <<< (nI n &&& 31)) - 1) ^^^ -1) = 0 → ¬ mmc (nI m) n = 0 ∧ bitc (nI m) = mmc (nI m) n := by decide +kernel
theorem bits_lt {a : Int32} {n : Nat} (hn : n < 7) (h : a &&& (((1 <<< (nI n &&& 31)) - 1) ^^^ -1) = 0) : ∃ m, m < 64 ∧ a = nI m := by
  have hm : ∀ n, n < 7 → ((((1 : Int32) <<< (nI n &&& 31)) - 1) ^^^ -1) &&& (-64) = (-64 : Int32) := by decide +kernel
  have h1 : a &&& (-64) = 0 := by
    rw [← hm n hn, ← Int32.and_assoc, h]
    decide
  refine ⟨(a &&& 63).toBitVec.toNat, ?_, ?_⟩
  · have := pk_and a (m := 63) 6 (by decide)
    rw [this, pk_tn (by omega)]
    omega
  · have e : a = (a &&& (-64)) ||| (a &&& 63) := by
      apply Int32.toBitVec_inj.mp
      apply BitVec.eq_of_getLsbD_eq
      intro i hi
      have hb : ∀ i, i < 32 → ((-64 : Int32).toBitVec.getLsbD i || (63 : Int32).toBitVec.getLsbD i) = true := by decide
      have hb := hb i hi
      simp only [Int32.toBitVec_or, Int32.toBitVec_and, BitVec.getLsbD_or, BitVec.getLsbD_and]
      generalize (-64 : Int32).toBitVec.getLsbD i = x at hb ⊢
      generalize (63 : Int32).toBitVec.getLsbD i = y at hb ⊢
      cases a.toBitVec.getLsbD i <;> simp_all
    rw [h1, Int32.zero_or] at e
    rw [← e]
    apply Int32.toBitVec_inj.mp
    simp [nI]
theorem bits_ok {a : Int32} {n : Nat} (hn : n < 7) (h0 : ¬ a = 0) (h : a &&& (((1 <<< (nI n &&& 31)) - 1) ^^^ -1) = 0) : ¬ mmc a n = 0 ∧ bitc a = mmc a n := by
  obtain ⟨m, hm, rfl⟩ := bits_lt hn h
  exact bits6 n hn m hm h0 h
theorem bits_all : ∀ n, n < 7 → ((((1 : Int32) <<< (nI n &&& 31)) - 1) &&& ((((1 : Int32) <<< (nI n &&& 31)) - 1) ^^^ -1)) = 0 := by decide +kernel
theorem bits_ne {a : Int32} {n : Nat} (hn : n < 7) (h0 : ¬ a = 0) (h : a &&& (((1 <<< (nI n &&& 31)) - 1) ^^^ -1) = 0) : ¬ ((1 : Int32) <<< (nI n &&& 31)) - 1 = 0 := fun q => by
  rw [q] at h
  exact h0 (by rw [show (0 : Int32) ^^^ -1 = -1 by decide, Int32.and_neg_one] at h; exact h)
def msr (v : Mem) (j : Nat) (a lo hi : Int32) : Int32 := if btw a lo hi = 0 then -1000003 else v 15 j
def msm (v : Mem) (j : Nat) (a lo hi : Int32) : Mem := if btw a lo hi = 0 then v else st v 15 j a
/-! move -/
def mfl (f g : Nat → Int32) (n : Nat) (d top bot : Int32) (t : Nat) : Nat → Int32 := fun k => if k ≤ t ∧ k < n then ent f n d top bot k else if k = n then bot else g k
theorem mfl_init (v : Mem) (f : Nat → Int32) {n : Nat} (hn : 0 < n) (d top bot : Int32) {x : Int32} (hx : x = -top) : st (st v 20 0 x) 20 n bot = va_up v 20 (mfl f (v 20) n d top bot 0) := by
  subst hx
  rw [st, st, up_at, up_up]
  congr 1
  funext k
  unfold upd mfl
  by_cases h1 : k = n
  · subst h1
    rw [if_pos rfl, if_neg (by omega), if_pos rfl]
  · rw [if_neg h1]
    by_cases h2 : k = 0
    · subst h2
      rw [if_pos rfl, if_pos ⟨Nat.le_refl _, hn⟩]
      rfl
    · rw [if_neg h2, if_neg (by omega), if_neg h1]
theorem mfl_step (v : Mem) (f : Nat → Int32) {n t : Nat} (hn : t + 1 < n) (d top bot : Int32) {x : Int32} (hx : x = (f t - f (t + 1)) * d / 1000) : st (va_up v 20 (mfl f (v 20) n d top bot t)) 20 (t + 1) x = va_up v 20 (mfl f (v 20) n d top bot (t + 1)) := by
  rw [st_up]
  congr 1
  funext k
  unfold upd mfl
  by_cases h1 : k = t + 1
  · subst h1
    rw [if_pos rfl, if_pos ⟨Nat.le_refl _, hn⟩]
    show x = lea f n d bot t
    rw [lea, if_pos hn]
    exact hx
  · rw [if_neg h1]
    by_cases h2 : k ≤ t ∧ k < n
    · rw [if_pos h2, if_pos (by omega)]
    · have h3 : ¬ (k ≤ t + 1 ∧ k < n) := by omega
      rw [if_neg h2, if_neg h3]
theorem mfl_ent (f g : Nat → Int32) {n t : Nat} (h : t < n) (d top bot : Int32) : mfl f g n d top bot (n - 1) t = ent f n d top bot t := by
  unfold mfl
  rw [if_pos (by omega)]
theorem mfl_lea (f g : Nat → Int32) {n t : Nat} (h : t < n) (d top bot : Int32) : mfl f g n d top bot (n - 1) (t + 1) = lea f n d bot t := by
  unfold mfl
  by_cases h2 : t + 1 < n
  · rw [if_pos (by omega)]
    rfl
  · rw [if_neg (by omega), if_pos (by omega), lea, if_neg h2]
theorem mfl_n (f g : Nat → Int32) (n : Nat) (d top bot : Int32) (t : Nat) : mfl f g n d top bot t n = bot := by
  unfold mfl
  rw [if_neg (by omega), if_pos rfl]
def mcp (c : Nat → Int32) (b n : Nat) (d top bot : Int32) (t : Nat) : Nat → Int32 := fun q => if 9 * b ≤ q ∧ q < 9 * b + t then c q + (ent (fun k => c (9 * b + k)) n d top bot (q - 9 * b) - lea (fun k => c (9 * b + k)) n d bot (q - 9 * b)) else c q
theorem mcp_zero (c : Nat → Int32) (b n : Nat) (d top bot : Int32) : mcp c b n d top bot 0 = c := by
  funext q
  unfold mcp
  rw [if_neg (by omega)]
theorem mcp_get (c : Nat → Int32) (b n : Nat) (d top bot : Int32) (t : Nat) : mcp c b n d top bot t (9 * b + t) = c (9 * b + t) := by
  unfold mcp
  rw [if_neg (by omega)]
theorem mcp_step (v w : Mem) (b n : Nat) (d top bot : Int32) (t : Nat) {x : Int32} (hx : x = v 17 (9 * b + t) + (ent (mrow v b) n d top bot t - lea (mrow v b) n d bot t)) : st (va_up w 17 (mcp (v 17) b n d top bot t)) 17 (9 * b + t) x = va_up w 17 (mcp (v 17) b n d top bot (t + 1)) := by
  rw [st_up]
  congr 1
  funext q
  unfold upd mcp
  by_cases h1 : q = 9 * b + t
  · subst h1
    rw [if_pos rfl, if_pos (by omega), show 9 * b + t - 9 * b = t by omega]
    exact hx
  · rw [if_neg h1]
    by_cases h2 : 9 * b ≤ q ∧ q < 9 * b + t
    · rw [if_pos h2, if_pos (by omega)]
    · rw [if_neg h2, if_neg (by omega)]
def mmv (E : Ev) (b : Nat) (top bot : Int32) (v : Mem) : Mem := va_up (va_up v 20 (mfl (mrow v b) (v 20) (eLn E b) (v 15 5) top bot (eLn E b - 1))) 17 (mcp (v 17) b (eLn E b) (v 15 5) top bot (eLn E b))
def mtop (v : Mem) (b : Nat) (a : Int32) : Int32 := (mrow v b 0 - a) * v 15 6 / 1000
def mbot (E : Ev) (v : Mem) (b : Nat) (a : Int32) : Int32 := (mrow v b (eLn E b - 1) - a) * v 15 6 / 1000
theorem mmv_ne (E : Ev) (b : Nat) (top bot : Int32) (v : Mem) {q : Nat} (h1 : q ≠ 17) (h2 : q ≠ 20) : mmv E b top bot v q = v q := by
  rw [mmv, up_ne _ _ h1, up_ne _ _ h2]
/-! hours -/
def mnum (E : Ev) (w : Mem) (t : Nat) : Nat := if w 15 10 = 0 then t else eNb E 3 - 1 - t
def mair (a g k : Int32) : Int32 := if 0 ≤ a + g / k then a + g / k else 0
def mone (E : Ev) (b : Nat) (a : Int32) (w : Mem) : Mem := mmv E b (mtop w b a) (mbot E w b a) (st w 19 b a)
def mbp (E : Ev) (a : Int32) (v : Mem) : Nat → Mem × Int32
  | 0 => (v, 0)
  | t + 1 => (mone E (mnum E (mbp E a v t).1 t) (mair a (mbp E a v t).2 ((mbp E a v t).1 15 7)) (mbp E a v t).1, (mbp E a v t).2 + (mbot E (mbp E a v t).1 (mnum E (mbp E a v t).1 t) (mair a (mbp E a v t).2 ((mbp E a v t).1 15 7)) - -(mtop (mbp E a v t).1 (mnum E (mbp E a v t).1 t) (mair a (mbp E a v t).2 ((mbp E a v t).1 15 7)))))
theorem mbp_ne (E : Ev) (a : Int32) (v : Mem) {q : Nat} (h1 : q ≠ 17) (h2 : q ≠ 20) (h3 : q ≠ 19) : ∀ t, (mbp E a v t).1 q = v q
  | 0 => rfl
  | t + 1 => by
    show mone E _ _ (mbp E a v t).1 q = v q
    rw [mone, mmv_ne E _ _ _ _ h1 h2, st_ne _ _ _ h3, mbp_ne E a v h1 h2 h3 t]
def mblm (E : Ev) (a : Int32) (v : Mem) : Mem := (mbp E a v (eNb E 3)).1
def mblr (E : Ev) (a : Int32) (v : Mem) : Int32 := (mbp E a v (eNb E 3)).2
def mrs (E : Ev) (v : Mem) : Nat → Mem
  | 0 => v
  | t + 1 => mmv E t 0 0 (mrs E v t)
def mrst (E : Ev) (v : Mem) : Mem := mrs E v (eNb E 3)
theorem mrs_ne (E : Ev) (v : Mem) {q : Nat} (h1 : q ≠ 17) (h2 : q ≠ 20) : ∀ t, mrs E v t q = v q
  | 0 => rfl
  | t + 1 => by
    show mmv E t 0 0 (mrs E v t) q = v q
    rw [mmv_ne E _ _ _ _ h1 h2, mrs_ne E v h1 h2 t]
def mec (E : Ev) (v : Mem) : Nat → Mem × Int32
  | 0 => (v, 0)
  | t + 1 => if mstr E (mec E v t).1 t ≤ (mec E v t).1 15 8 then mec E v t else if (mec E v t).1 18 t = -1000005 then (st (mec E v t).1 18 t ((mec E v t).1 15 12), (mec E v t).2 + 1) else mec E v t
def mend (E : Ev) (v : Mem) : Mem × Int32 := mec E (st v 15 12 (v 15 12 + 1)) (eNb E 3)
theorem mec_ne (E : Ev) (v : Mem) {q : Nat} (h : q ≠ 18) : ∀ t, (mec E v t).1 q = v q
  | 0 => rfl
  | t + 1 => by
    have ih := mec_ne E v h t
    simp only [mec]
    split
    · exact ih
    · split
      · show st _ 18 _ _ q = v q
        rw [st_ne _ _ _ h]
        exact ih
      · exact ih
theorem mend_ne (E : Ev) (v : Mem) {q : Nat} (h : q ≠ 18) (h2 : q ≠ 15) : (mend E v).1 q = v q := by
  rw [mend, mec_ne E _ h, st_ne _ _ _ h2]
theorem mend_15 (E : Ev) (v : Mem) {j : Nat} (h : j ≠ 12) : (mend E v).1 15 j = v 15 j := by
  rw [mend, mec_ne E _ (by decide), st_nj _ _ _ h]
def med (v : Mem) : Mem :=
  if v 15 11 ≤ 0 then st v 15 13 (v 15 13 + 1)
  else if (v 15 13 + 1) - (v 15 13 + 1) / v 15 11 * v 15 11 = 0 then st (st v 15 13 (v 15 13 + 1)) 15 10 (ntg (v 15 10))
  else st v 15 13 (v 15 13 + 1)
theorem med_ne (v : Mem) {q : Nat} (h : q ≠ 15) : med v q = v q := by
  unfold med
  split
  · rw [st_ne _ _ _ h]
  · split
    · rw [st_ne _ _ _ h, st_ne _ _ _ h]
    · rw [st_ne _ _ _ h]
theorem med_15 (v : Mem) {j : Nat} (h : j ≠ 13) (h2 : j ≠ 10) : med v 15 j = v 15 j := by
  unfold med
  split
  · rw [st_nj _ _ _ h]
  · split
    · rw [st_nj _ _ _ h2, st_nj _ _ _ h]
    · rw [st_nj _ _ _ h]
/-- a drying hour of the model -/
def mdh (E : Ev) (a : Int32) (v : Mem) : Mem := med (mend E (st (mblm E a v) 15 14 (v 15 14 + mblr E a v))).1
theorem mdh_15 (E : Ev) (a : Int32) (v : Mem) {j : Nat} (h1 : j ≠ 13) (h2 : j ≠ 10) (h3 : j ≠ 12) (h4 : j ≠ 14) : mdh E a v 15 j = v 15 j := by
  rw [mdh, med_15 _ h1 h2, mend_15 E _ h3, st_nj _ _ _ h4, mblm, mbp_ne E _ _ (by decide) (by decide) (by decide)]
def mdp (E : Ev) (v : Mem) : Nat → Mem × Int32
  | 0 => (v, 0)
  | t + 1 => (mdh E ((mdp E v t).1 15 9) (mdp E v t).1, (mdp E v t).2 + mblr E ((mdp E v t).1 15 9) (mdp E v t).1)
theorem mdp_15 (E : Ev) (v : Mem) {j : Nat} (h1 : j ≠ 13) (h2 : j ≠ 10) (h3 : j ≠ 12) (h4 : j ≠ 14) : ∀ t, (mdp E v t).1 15 j = v 15 j
  | 0 => rfl
  | t + 1 => by
    show mdh E _ (mdp E v t).1 15 j = v 15 j
    rw [mdh_15 E _ _ h1 h2 h3 h4, mdp_15 E v h1 h2 h3 h4 t]
def mdr (E : Ev) (v : Mem) (a : Int32) : Int32 := if btw a 1 200 = 0 then -1000003 else (mdp E v a.toNatClampNeg).2
def mdm (E : Ev) (v : Mem) (a : Int32) : Mem := if btw a 1 200 = 0 then v else (mdp E v a.toNatClampNeg).1
def mrp (E : Ev) (v : Mem) : Nat → Mem × Int32
  | 0 => (v, 0)
  | t + 1 => ((mend E (mrst E (mrp E v t).1)).1, (mrp E v t).2 + (mend E (mrst E (mrp E v t).1)).2)
def mrr (E : Ev) (v : Mem) (a : Int32) : Int32 := if btw a 1 200 = 0 then -1000003 else (mrp E v a.toNatClampNeg).2
def mrm (E : Ev) (v : Mem) (a : Int32) : Mem := if btw a 1 200 = 0 then v else (mrp E v a.toNatClampNeg).1
theorem btw_200 {a : Int32} (h : ¬ btw a 1 200 = 0) : ∃ N, N ≤ 200 ∧ a = nI N := by
  obtain ⟨h1, h2⟩ := btw_in h
  have e0 : (0 : Int32).toInt = 0 := by decide
  have e1 : (1 : Int32).toInt = 1 := by decide
  refine nI_of2 (M := 200) (by decide) (fun h => h1 (Int32.lt_iff_toInt_lt.mpr ?_)) ?_
  · have := Int32.lt_iff_toInt_lt.mp h
    omega
  · exact Int32.not_lt.mp h2
theorem btw_n (x a b : Int32) : narrow .boolean (.int (btw x a b)) = .int (btw x a b) := by
  unfold btw
  split
  · rfl
  · split <;> rfl

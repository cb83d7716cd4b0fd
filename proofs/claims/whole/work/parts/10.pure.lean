/-! plain functions of rows and of the memory -/
def imx (a b : Int32) : Int32 := if a < b then b else a
theorem imx_eq (a b : Int32) : imx a b = (if a < b then b else a) := rfl
def imn (a b : Int32) : Int32 := if b < a then b else a
theorem imn_eq (a b : Int32) : imn a b = (if b < a then b else a) := rfl
theorem nI_m1 {n : Nat} (h : 0 < n) : nI n - 1 = nI (n - 1) := by
  have k := pk_sub (a := n) (b := 1) h
  exact k
def psum (f : Nat → Int32) : Nat → Int32
  | 0 => 0
  | n + 1 => psum f n + f n
def pmx (f : Nat → Int32) : Nat → Int32
  | 0 => 0
  | n + 1 => imx (pmx f n) (f n)
def pstr (f : Nat → Int32) (n : Nat) : Int32 := pmx f n - imn (f 0) (f (n - 1))
def out (x a b : Int32) : Int32 := if x < a then 1 else if x ≤ b then 0 else 1
def quo (a b : Int32) : Int32 := if b = 0 then 0 else a / b
def lea (f : Nat → Int32) (n : Nat) (d bot : Int32) (k : Nat) : Int32 := if k + 1 < n then (f k - f (k + 1)) * d / 1000 else bot
def ent (f : Nat → Int32) (n : Nat) (d top bot : Int32) : Nat → Int32
  | 0 => -top
  | k + 1 => lea f n d bot k
/-- the row when t of its layers have taken their flows -/
def fpre (f : Nat → Int32) (n : Nat) (d top bot : Int32) (t : Nat) : Nat → Int32 := fun k => if k < t then f k + (ent f n d top bot k - lea f n d bot k) else f k
def flw (f : Nat → Int32) (n : Nat) (d top bot : Int32) : Nat → Int32 := fpre f n d top bot n
theorem up_self {α : Type} (v : Nat → α) (k : Nat) : va_up v k (v k) = v := by
  funext q
  by_cases h : q = k
  · subst h; simp [va_up]
  · simp [va_up, h]
theorem up_at {α : Type} (v : Nat → α) (k : Nat) (g : α) : va_up v k g k = g := by simp [va_up]
theorem up_ne {α : Type} (v : Nat → α) {k q : Nat} (g : α) (h : q ≠ k) : va_up v k g q = v q := by simp [va_up, h]
theorem up_up {α : Type} (v : Nat → α) (k : Nat) (g g2 : α) : va_up (va_up v k g) k g2 = va_up v k g2 := by
  funext q
  by_cases h : q = k <;> simp [va_up, h]
theorem st_up (v : Mem) (k : Nat) (g : Nat → Int32) (j : Nat) (x : Int32) : st (va_up v k g) k j x = va_up v k (upd g j x) := by
  rw [st, up_at, up_up]
theorem st_at (v : Mem) (k j : Nat) (x : Int32) : st v k j x k j = x := by simp [st, va_up, upd]
theorem st_ne (v : Mem) {k q : Nat} (j : Nat) (x : Int32) (h : q ≠ k) : st v k j x q = v q := by simp [st, va_up, h]
theorem st_nj (v : Mem) (k : Nat) {j i : Nat} (x : Int32) (h : i ≠ j) : st v k j x k i = v k i := by simp [st, va_up, upd, h]
theorem fpre_zero (f : Nat → Int32) (n : Nat) (d top bot : Int32) : fpre f n d top bot 0 = f := by
  funext k
  simp [fpre]
theorem fpre_ge (f : Nat → Int32) (n : Nat) (d top bot : Int32) {t k : Nat} (h : t ≤ k) : fpre f n d top bot t k = f k := by
  unfold fpre
  rw [if_neg (by omega)]
theorem fpre_step (f : Nat → Int32) (n : Nat) (d top bot : Int32) (t : Nat) {x : Int32} (hx : x = f t + (ent f n d top bot t - lea f n d bot t)) : upd (fpre f n d top bot t) t x = fpre f n d top bot (t + 1) := by
  funext k
  unfold upd fpre
  by_cases h : k = t
  · subst h
    rw [if_pos rfl, if_pos (by omega)]
    exact hx
  · rw [if_neg h]
    by_cases h2 : k < t
    · rw [if_pos h2, if_pos (by omega)]
    · rw [if_neg h2, if_neg (by omega)]
theorem fp_get (v : Mem) (K n : Nat) (d top bot : Int32) {t k : Nat} (h : t ≤ k) : va_up v K (fpre (v K) n d top bot t) K k = v K k := by
  rw [up_at, fpre_ge _ _ _ _ _ h]
theorem fp_set (v : Mem) (K n : Nat) (d top bot : Int32) (t : Nat) {x : Int32} (hx : x = v K t + (ent (v K) n d top bot t - lea (v K) n d bot t)) : st (va_up v K (fpre (v K) n d top bot t)) K t x = va_up v K (fpre (v K) n d top bot (t + 1)) := by
  rw [st_up, fpre_step _ _ _ _ _ _ hx]
theorem imn_self (a : Int32) : imn a a = a := by
  unfold imn
  by_cases h : a < a <;> simp [h]
theorem ne_ab {i j k l : Nat} (hj : j < 10) (hl : l < 10) : ba i j ≠ bo k l := by
  unfold ba bo
  omega
theorem ne_bl {i j k : Nat} (hk : k < 100) : bo i j ≠ k := by
  unfold bo
  omega
theorem ne_al {i j k : Nat} (hk : k < 100) : ba i j ≠ k := by
  unfold ba
  omega
def btop (E : Ev) (i j : Nat) (a : Int32) (v : Mem) : Int32 := (v (ba i j) 0 - a) * v 1 1 / 1000
def bbot (E : Ev) (i j : Nat) (a : Int32) (v : Mem) : Int32 := (v (ba i j) (eLn E j - 1) - a) * v 1 1 / 1000
/-- a board's drying hour at air a -/
def bdry (E : Ev) (i j : Nat) (a : Int32) (v : Mem) : Mem := va_up (st v (bo i j) 2 a) (ba i j) (flw (v (ba i j)) (eLn E j) (v 1 0) (btop E i j a v) (bbot E i j a v))
def brst (E : Ev) (i j : Nat) (d : Int32) (v : Mem) : Mem := va_up v (ba i j) (flw (v (ba i j)) (eLn E j) d 0 0)
/-- board j of load i takes the moistures of board j of load o -/
def bcpy (E : Ev) (i o j : Nat) (v : Mem) : Mem := va_up v (ba i j) (va_cpy (v (ba o j)) (v (ba i j)) 0 0 (eLn E j))
/-! loads -/
def lavg (E : Ev) (v : Mem) (i j : Nat) : Int32 := quo (psum (v (ba i j)) (eLn E j)) (nI (eLn E j))
def lwat (E : Ev) (v : Mem) (i : Nat) : Nat → Int32
  | 0 => 0
  | t + 1 => lwat E v i t + psum (v (ba i t)) (eLn E t)
def lwg (E : Ev) (v : Mem) (i : Nat) : Nat → Int32
  | 0 => -1
  | t + 1 => if lavg E v i t ≤ lwg E v i t then lwg E v i t else lavg E v i t
def lwb (E : Ev) (v : Mem) (i : Nat) : Nat → Int32
  | 0 => -1000005
  | t + 1 => if lavg E v i t ≤ lwg E v i t then lwb E v i t else nI t
def lga (E : Ev) (v : Mem) (i : Nat) : Nat → Int32
  | 0 => 0
  | t + 1 => imx (lga E v i t) (lavg E v i t)
def iwt (E : Ev) (v : Mem) (i : Nat) (a : Int32) : Int32 := if lga E v i (eNb E i) ≤ a then 0 else 1
def lgg (E : Ev) (v : Mem) (i : Nat) : Nat → Int32
  | 0 => 0
  | t + 1 => imx (lgg E v i t) (pstr (v (ba i t)) (eLn E t))
def lms (E : Ev) (v : Mem) (i : Nat) (a : Int32) : Nat → Int32
  | 0 => 0
  | t + 1 => if a >>> (nI t &&& 31) &&& 1 = 1 then lms E v i a t + lavg E v i t else lms E v i a t
def bsh (x y : Int32) : Int32 := (x.toUInt32 >>> (y.toUInt32 &&& Int32.toUInt32 31)).toInt32
def bc1 (x : Int32) : Int32 := x - (bsh x 1 &&& 1431655765)
def bc2 (x : Int32) : Int32 := (x &&& 858993459) + (bsh x 2 &&& 858993459)
def bc3 (x : Int32) : Int32 := (x + bsh x 4) &&& 252645135
def bc4 (x : Int32) : Int32 := x + bsh x 8
def bc5 (x : Int32) : Int32 := x + bsh x 16
def bitc (x : Int32) : Int32 := bc5 (bc4 (bc3 (bc2 (bc1 x)))) &&& 63
def lmean (E : Ev) (v : Mem) (i : Nat) (a : Int32) : Int32 := quo (lms E v i a (eNb E i)) (bitc a)
/-- which board the air meets as the t-th -/
def lnum (E : Ev) (i : Nat) (w : Mem) (t : Nat) : Nat := if w (5 + i) 0 = 0 then t else eNb E i - 1 - t
def lair (a g k : Int32) : Int32 := imx 0 (a + quo g k)
def ldp (E : Ev) (i : Nat) (a : Int32) (v : Mem) : Nat → Mem × Int32
  | 0 => (v, 0)
  | t + 1 => (bdry E i (lnum E i (ldp E i a v t).1 t) (lair a (ldp E i a v t).2 ((ldp E i a v t).1 1 2)) (ldp E i a v t).1, (ldp E i a v t).2 + (btop E i (lnum E i (ldp E i a v t).1 t) (lair a (ldp E i a v t).2 ((ldp E i a v t).1 1 2)) (ldp E i a v t).1 + bbot E i (lnum E i (ldp E i a v t).1 t) (lair a (ldp E i a v t).2 ((ldp E i a v t).1 1 2)) (ldp E i a v t).1))
def ntg (x : Int32) : Int32 := if x = 0 then 1 else 0
def lcnt (i : Nat) (q : Int32) (v : Mem) : Mem :=
  if q ≤ 0 then st v (5 + i) 1 (v (5 + i) 1 + 1)
  else if (v (5 + i) 1 + 1) - (v (5 + i) 1 + 1) / q * q = 0 then st (st v (5 + i) 1 (v (5 + i) 1 + 1)) (5 + i) 0 (ntg (v (5 + i) 0))
  else st v (5 + i) 1 (v (5 + i) 1 + 1)
/-- a load's drying hour -/
def ldry (E : Ev) (i : Nat) (a : Int32) (v : Mem) : Mem := lcnt i ((ldp E i a v (eNb E i)).1 1 5) (ldp E i a v (eNb E i)).1
def lgiv (E : Ev) (i : Nat) (a : Int32) (v : Mem) : Int32 := (ldp E i a v (eNb E i)).2
def lrs (E : Ev) (i : Nat) (v : Mem) : Nat → Mem
  | 0 => v
  | t + 1 => brst E i t (lrs E i v t 1 0) (lrs E i v t)
def lrst (E : Ev) (i : Nat) (v : Mem) : Mem := lrs E i v (eNb E i)
def lrc (E : Ev) (i : Nat) (lim h : Int32) (v : Mem) : Nat → Mem × Int32
  | 0 => (v, 0)
  | t + 1 => if (lrc E i lim h v t).1 (bo i t) 1 = -1000005 then (if pstr ((lrc E i lim h v t).1 (ba i t)) (eLn E t) ≤ lim then lrc E i lim h v t else (st (lrc E i lim h v t).1 (bo i t) 1 h, (lrc E i lim h v t).2 + 1)) else lrc E i lim h v t
def lcp (E : Ev) (i o : Nat) (v : Mem) : Nat → Mem
  | 0 => v
  | t + 1 => bcpy E i o t (lcp E i o v t)
theorem lcp_ne (E : Ev) (i o : Nat) (v : Mem) {q : Nat} (hq : ∀ j, q ≠ ba i j) : ∀ t, lcp E i o v t q = v q
  | 0 => rfl
  | t + 1 => by
    show bcpy E i o t (lcp E i o v t) q = v q
    rw [bcpy, up_ne _ _ (hq t), lcp_ne E i o v hq t]
def lcpy (E : Ev) (i o : Nat) (v : Mem) : Mem := st (st (lcp E i o v (eNb E i)) (5 + i) 0 (v (5 + o) 0)) (5 + i) 1 (v (5 + o) 1)
def lhas (E : Ev) (i : Nat) (a : Int32) : Int32 := if a < 0 then 0 else if nI (eNb E i) ≤ a then 0 else 1
/-! the schedule -/
def sst (v : Mem) (a : Int32) : Nat → Int32
  | 0 => -1000005
  | t + 1 => if v 3 t < a then sst v a t else nI t
def sinl (v : Mem) (a b : Int32) : Int32 := if a < 0 then b else if 8 ≤ a then b else v 4 a.toNatClampNeg
def sapp (v : Mem) (ns : Nat) (a b : Int32) : Mem := st (st (st v 3 ns a) 4 ns b) 2 2 (nI (ns + 1))
def sappr (v : Mem) (ns : Nat) (a : Int32) : Int32 := if 0 < ns ∧ ¬ a < v 3 (ns - 1) then -1000003 else if ns < 8 then nI ns else -1000004
def sappm (v : Mem) (ns : Nat) (a b : Int32) : Mem := if 0 < ns ∧ ¬ a < v 3 (ns - 1) then v else if ns < 8 then sapp v ns a b else v
def isB (x : Int32) : Prop := x = 0 ∨ x = 1
theorem isB.n {x : Int32} (h : isB x) : narrow .boolean (.int x) = .int x := by
  rcases h with rfl | rfl <;> rfl
theorem isB.f {x : Int32} (h : isB x) : fits .boolean (.int x) = true := by
  rcases h with rfl | rfl <;> rfl

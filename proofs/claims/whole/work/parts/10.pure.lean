/-! plain functions of rows and of the memory -/
def imx (a b : Int32) : Int32 := if a < b then b else a
theorem imx_eq (a b : Int32) : imx a b = (if a < b then b else a) := rfl
def imn (a b : Int32) : Int32 := if b < a then b else a
theorem imn_eq (a b : Int32) : imn a b = (if b < a then b else a) := rfl
theorem nI_m1 {n : Nat} (h : 0 < n) : nI n - 1 = nI (n - 1) := by
  have k := pk_sub (a := n) (b := 1) h
  exact k
def psum (f : Nat → Int32) : Nat → Int32
  | 0 => 0
  | n + 1 => psum f n + f n
def pmx (f : Nat → Int32) : Nat → Int32
  | 0 => 0
  | n + 1 => imx (pmx f n) (f n)
def pstr (f : Nat → Int32) (n : Nat) : Int32 := pmx f n - imn (f 0) (f (n - 1))
def out (x a b : Int32) : Int32 := if x < a then 1 else if x ≤ b then 0 else 1
def quo (a b : Int32) : Int32 := if b = 0 then 0 else a / b
def lea (f : Nat → Int32) (n : Nat) (d bot : Int32) (k : Nat) : Int32 := if k + 1 < n then (f k - f (k + 1)) * d / 1000 else bot
def ent (f : Nat → Int32) (n : Nat) (d top bot : Int32) : Nat → Int32
  | 0 => -top
  | k + 1 => lea f n d bot k
/-- the row when t of its layers have taken their flows -/
def fpre (f : Nat → Int32) (n : Nat) (d top bot : Int32) (t : Nat) : Nat → Int32 := fun k => if k < t then f k + (ent f n d top bot k - lea f n d bot k) else f k
def flw (f : Nat → Int32) (n : Nat) (d top bot : Int32) : Nat → Int32 := fpre f n d top bot n
theorem up_self {α : Type} (v : Nat → α) (k : Nat) : va_up v k (v k) = v := by
  funext q
  by_cases h : q = k
  · subst h; simp [va_up]
  · simp [va_up, h]
theorem up_at {α : Type} (v : Nat → α) (k : Nat) (g : α) : va_up v k g k = g := by simp [va_up]
theorem up_ne {α : Type} (v : Nat → α) {k q : Nat} (g : α) (h : q ≠ k) : va_up v k g q = v q := by simp [va_up, h]
theorem up_up {α : Type} (v : Nat → α) (k : Nat) (g g2 : α) : va_up (va_up v k g) k g2 = va_up v k g2 := by
  funext q
  by_cases h : q = k <;> simp [va_up, h]
theorem st_up (v : Mem) (k : Nat) (g : Nat → Int32) (j : Nat) (x : Int32) : st (va_up v k g) k j x = va_up v k (upd g j x) := by
  rw [st, up_at, up_up]
theorem st_at (v : Mem) (k j : Nat) (x : Int32) : st v k j x k j = x := by simp [st, va_up, upd]
theorem st_ne (v : Mem) {k q : Nat} (j : Nat) (x : Int32) (h : q ≠ k) : st v k j x q = v q := by simp [st, va_up, h]
theorem st_nj (v : Mem) (k : Nat) {j i : Nat} (x : Int32) (h : i ≠ j) : st v k j x k i = v k i := by simp [st, va_up, upd, h]
theorem fpre_zero (f : Nat → Int32) (n : Nat) (d top bot : Int32) : fpre f n d top bot 0 = f := by
  funext k
  simp [fpre]
theorem fpre_ge (f : Nat → Int32) (n : Nat) (d top bot : Int32) {t k : Nat} (h : t ≤ k) : fpre f n d top bot t k = f k := by
  unfold fpre
  rw [if_neg (by omega)]
theorem fpre_step (f : Nat → Int32) (n : Nat) (d top bot : Int32) (t : Nat) {x : Int32} (hx : x = f t + (ent f n d top bot t - lea f n d bot t)) : upd (fpre f n d top bot t) t x = fpre f n d top bot (t + 1) := by
  funext k
  unfold upd fpre
  by_cases h : k = t
  · subst h
    rw [if_pos rfl, if_pos (by omega)]
    exact hx
  · rw [if_neg h]
    by_cases h2 : k < t
    · rw [if_pos h2, if_pos (by omega)]
    · rw [if_neg h2, if_neg (by omega)]
theorem fp_get (v : Mem) (K n : Nat) (d top bot : Int32) {t k : Nat} (h : t ≤ k) : va_up v K (fpre (v K) n d top bot t) K k = v K k := by
  rw [up_at, fpre_ge _ _ _ _ _ h]
theorem fp_set (v : Mem) (K n : Nat) (d top bot : Int32) (t : Nat) {x : Int32} (hx : x = v K t + (ent (v K) n d top bot t - lea (v K) n d bot t)) : st (va_up v K (fpre (v K) n d top bot t)) K t x = va_up v K (fpre (v K) n d top bot (t + 1)) := by
  rw [st_up, fpre_step _ _ _ _ _ _ hx]
theorem imn_self (a : Int32) : imn a a = a := by
  unfold imn
  by_cases h : a < a <;> simp [h]
theorem ne_ab {i j k l : Nat} (hj : j < 10) (hl : l < 10) : ba i j ≠ bo k l := by
  unfold ba bo
  omega
theorem ne_bl {i j k : Nat} (hk : k < 100) : bo i j ≠ k := by
  unfold bo
  omega
theorem ne_al {i j k : Nat} (hk : k < 100) : ba i j ≠ k := by
  unfold ba
  omega
def btop (E : Ev) (i j : Nat) (a : Int32) (v : Mem) : Int32 := (v (ba i j) 0 - a) * v 1 1 / 1000
def bbot (E : Ev) (i j : Nat) (a : Int32) (v : Mem) : Int32 := (v (ba i j) (eLn E j - 1) - a) * v 1 1 / 1000
/-- a board's drying hour at air a -/
def bdry (E : Ev) (i j : Nat) (a : Int32) (v : Mem) : Mem := va_up (st v (bo i j) 2 a) (ba i j) (flw (v (ba i j)) (eLn E j) (v 1 0) (btop E i j a v) (bbot E i j a v))
def brst (E : Ev) (i j : Nat) (d : Int32) (v : Mem) : Mem := va_up v (ba i j) (flw (v (ba i j)) (eLn E j) d 0 0)
/-- board j of load i takes the moistures of board j of load o -/
def bcpy (E : Ev) (i o j : Nat) (v : Mem) : Mem := va_up v (ba i j) (va_cpy (v (ba o j)) (v (ba i j)) 0 0 (eLn E j))

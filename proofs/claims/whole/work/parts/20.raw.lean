/-! worlds whose cells are still being made: any contents by key -/
def eNew (E : Ev) (k q : Nat) : Ev := (E.1, E.2.1, E.2.2.1 ++ [k], va_up E.2.2.2.1 k q, E.2.2.2.2)
def HF (E : Ev) (f : Nat → va_E) (H : Heap) : Prop := va_P (eD E) vwCl (kw (eK E) (eAd E) f) H ∧ va_D (eA E) (kw (eK E) (eAd E) f)
def HFS (E : Ev) (H0 : Heap) (f : Nat → va_E) (H : Heap) (locs : List Loc) : Prop := HF E f H ∧ va_S (eA E) H0 H locs
def WF (E : Ev) (f : Nat → va_E) (U : State) : Prop := HF E f U.heap ∧ KS E U
theorem WF.blind {E : Ev} {f : Nat → va_E} {av : List Value} : FrameBlind (va_Pc av (WF E f)) := fun a U g mk q => ⟨q.1, q.2.1, q.2.2.blind⟩
theorem mem_new {E : Ev} {k q : Nat} : k ∈ eK (eNew E k q) := List.mem_append_right _ (List.mem_singleton.mpr rfl)
theorem mem_old {E : Ev} {k q j : Nat} (h : j ∈ eK E) : j ∈ eK (eNew E k q) := List.mem_append_left _ h
theorem not_new {E : Ev} {k q j : Nat} (h : j ∉ eK E) (hne : j ≠ k) : j ∉ eK (eNew E k q) := fun hm => by
  rcases List.mem_append.mp hm with h1 | h1
  · exact h h1
  · exact hne (List.mem_singleton.mp h1)
theorem kw_push {K : List Nat} {ad : Nat → Nat} {f : Nat → va_E} {k q : Nat} {e : va_E} (h : k ∉ K) : kw (K ++ [k]) (va_up ad k q) (va_up f k e) = kw K ad f ++ [(q, e)] := by
  unfold kw
  rw [List.map_append]
  congr 1
  · apply List.map_congr_left
    intro j hj
    have hne : j ≠ k := fun hh => h (hh ▸ hj)
    rw [up_ne _ _ hne, up_ne _ _ hne]
  · simp [up_at]
theorem HF.congr {E : Ev} {f g : Nat → va_E} {H : Heap} (h : HF E f H) (hfg : ∀ k ∈ eK E, f k = g k) : HF E g H := by
  have e : kw (eK E) (eAd E) f = kw (eK E) (eAd E) g := List.map_congr_left (fun k hk => by rw [hfg k hk])
  unfold HF at h ⊢
  rw [← e]
  exact h
/-- contents by a list of written keys -/
def lf (f : Nat → va_E) : List (Nat × va_E) → Nat → va_E
  | [], q => f q
  | (k, e) :: L, q => if q = k then e else lf f L q
def ups : List (Nat × va_E) → Nat → va_E → List (Nat × va_E)
  | [], k, e => [(k, e)]
  | (k', e') :: L, k, e => if k' = k then (k, e) :: L else (k', e') :: ups L k e
theorem lf_ups (f : Nat → va_E) (k : Nat) (e : va_E) : ∀ L, va_up (lf f L) k e = lf f (ups L k e)
  | [] => by
    funext q
    simp [va_up, lf, ups]
  | (k', e') :: L => by
    funext q
    have ih := congrFun (lf_ups f k e L) q
    unfold ups
    by_cases h : k' = k
    · subst h
      rw [if_pos rfl]
      simp only [va_up, lf]
      by_cases hq : q = k' <;> simp [hq]
    · rw [if_neg h]
      simp only [va_up, lf] at ih ⊢
      by_cases hq : q = k'
      · subst hq
        simp [h]
      · simp only [hq, if_false]
        exact ih
def mrg (L : List (Nat × va_E)) : List (Nat × va_E) → List (Nat × va_E)
  | [] => L
  | (k, e) :: L2 => ups (mrg L L2) k e
theorem lf_cons (f : Nat → va_E) (k : Nat) (e : va_E) (L : List (Nat × va_E)) : lf f ((k, e) :: L) = va_up (lf f L) k e := by
  funext q
  rfl
theorem lf_mrg (f : Nat → va_E) (L : List (Nat × va_E)) : ∀ L2, lf (lf f L) L2 = lf f (mrg L L2)
  | [] => rfl
  | (k, e) :: L2 => by
    rw [lf_cons, lf_mrg f L L2, lf_ups]
    rfl
section RK
variable {p : Program} {l : Launch} {e : Env} {R : Room} {s : State} {m : MethodId} {args : Array Value} {below : List Frame} {meth : Method} {c : Code} {H : Heap} {locs : List Loc} {cells slots : Nat} {Q : State → Prop}
variable {cc : ByteArray} {pc nL : Nat} {ls : Array Slot} {rest st0 : List Value} {E : Ev} {f : Nat → va_E} {Ts : List Cond} {own : String}
theorem r_get (F : FX p m c cc nL s args Ts own E) (hH : HFS E s.heap f H locs) {C ref : String} {T : u_T} {N ci index k a : Nat} (hin : ∀ w ∈ u_ws C T N, w ∈ Ts) (hk : k ∈ eK E) (ha : eAd E k = a) {fs : List Value} (he : f k = .inr (ci, fs)) (hc : vwCl[ci]? = some (C, T, N)) (j : Nat) (hj : j < N) (hlink : (Cond.fieldLink own index ref (T j).2.1 (T j).2.2.1).before args s = true) (hsame : ∀ x, s.fieldFound? (T j).1 (T j).2.1 (T j).2.2.1 = some x → s.fieldFound? ref (T j).2.1 (T j).2.2.1 = some x) {x : Value} (hx : fs[j]? = some x) (hdg : decode cc pc = .ok (.getfield index, 3))
    (kk : W p l e R s m args below meth c H locs cells slots Q (F0 m (pc + 3) ls (x :: rest))) : W p l e R s m args below meth c H locs cells slots Q (F0 m pc ls (.ref a :: rest)) := by
  subst ha
  obtain ⟨q, hq⟩ := kw_get (f := f) (ad := eAd E) hk
  exact va_get F.1.1 F.1.2.1 F.1.2.2.2.2 hin F.1.2.2.2.1 F.2.1 hH.1.1 q (hq.trans (by rw [he])) hc j hj hlink hsame hx hdg kk
theorem r_put (F : FX p m c cc nL s args Ts own E) (hH : HFS E s.heap f H locs) {C ref : String} {T : u_T} {N ci index k a : Nat} (hin : ∀ w ∈ u_ws C T N, w ∈ Ts) (ty0 : Nat → FieldType) (hty : ∀ k, k < N → parseFieldDescriptor (T k).2.2.1 = some (ty0 k)) (hnm : ∀ a, a < N → ∀ b, b < N → a ≠ b → (T a).2.1 ≠ (T b).2.1) (hk : k ∈ eK E) (ha : eAd E k = a) {fs : List Value} (he : f k = .inr (ci, fs)) (hc : vwCl[ci]? = some (C, T, N)) (j : Nat) (hj : j < N) (hlink : (Cond.fieldLink own index ref (T j).2.1 (T j).2.2.1).before args s = true) (hsame : ∀ x, s.fieldFound? (T j).1 (T j).2.1 (T j).2.2.1 = some x → s.fieldFound? ref (T j).2.1 (T j).2.2.1 = some x) (hfin : (T j).2.2.2 = false) {ty : FieldType} {x : Value} (hd : parseFieldDescriptor (T j).2.2.1 = some ty) (hn : narrow ty x = x) (hfit : fits ty x = true) (hl : j < fs.length) (hdg : decode cc pc = .ok (.putfield index, 3))
    (kk : ∀ (H1 : Heap) (locs1 : List Loc), HFS E s.heap (va_up f k (.inr (ci, fs.set j x))) H1 locs1 → W p l e R s m args below meth c H1 locs1 cells slots Q (F0 m (pc + 3) ls rest)) : W p l e R s m args below meth c H locs cells slots Q (F0 m pc ls (x :: .ref a :: rest)) := by
  subst ha
  obtain ⟨q, hq⟩ := kw_get (f := f) (ad := eAd E) hk
  refine va_put F.1.1 F.1.2.1 F.1.2.2.2.2 hin ty0 hty hnm F.1.2.2.2.1 F.2.1 hH.1.1 hH.1.2 hH.2 q (hq.trans (by rw [he])) hc j hj hlink hsame hfin hd hn hfit hl hdg (fun H1 locs1 hP hD hS => kk H1 locs1 ⟨⟨?_, ?_⟩, hS⟩)
  · rw [kw_set hH.1.2 hk hq] at hP
    exact hP
  · rw [kw_set hH.1.2 hk hq] at hD
    exact hD
theorem r_putF (F : FX p m c cc nL s args Ts own E) (hH : HFS E s.heap f H locs) (hin' : meth.name = "<init>") {C ref : String} {T : u_T} {N ci index k a : Nat} (hin : ∀ w ∈ u_ws C T N, w ∈ Ts) (ty0 : Nat → FieldType) (hty : ∀ k, k < N → parseFieldDescriptor (T k).2.2.1 = some (ty0 k)) (hnm : ∀ a, a < N → ∀ b, b < N → a ≠ b → (T a).2.1 ≠ (T b).2.1) (hk : k ∈ eK E) (ha : eAd E k = a) {fs : List Value} (he : f k = .inr (ci, fs)) (hc : vwCl[ci]? = some (C, T, N)) (j : Nat) (hj : j < N) (hlink : (Cond.fieldLink own index ref (T j).2.1 (T j).2.2.1).before args s = true) (hsame : ∀ x, s.fieldFound? (T j).1 (T j).2.1 (T j).2.2.1 = some x → s.fieldFound? ref (T j).2.1 (T j).2.2.1 = some x) (hfin : (T j).2.2.2 = true) (hdecl : (T j).1 = own) {ty : FieldType} {x : Value} (hd : parseFieldDescriptor (T j).2.2.1 = some ty) (hn : narrow ty x = x) (hfit : fits ty x = true) (hl : j < fs.length) (hdg : decode cc pc = .ok (.putfield index, 3))
    (kk : ∀ (H1 : Heap) (locs1 : List Loc), HFS E s.heap (va_up f k (.inr (ci, fs.set j x))) H1 locs1 → W p l e R s m args below meth c H1 locs1 cells slots Q (F0 m (pc + 3) ls rest)) : W p l e R s m args below meth c H locs cells slots Q (F0 m pc ls (x :: .ref a :: rest)) := by
  subst ha
  obtain ⟨q, hq⟩ := kw_get (f := f) (ad := eAd E) hk
  refine va_putF F.1.1 F.1.2.1 F.1.2.2.2.2 hin ty0 hty hnm F.1.2.2.2.1 F.2.1 hH.1.1 hH.1.2 hH.2 q (hq.trans (by rw [he])) hc j hj hlink hsame hfin hin' hdecl hd hn hfit hl hdg (fun H1 locs1 hP hD hS => kk H1 locs1 ⟨⟨?_, ?_⟩, hS⟩)
  · rw [kw_set hH.1.2 hk hq] at hP
    exact hP
  · rw [kw_set hH.1.2 hk hq] at hD
    exact hD
theorem r_new (F : FX p m c cc nL s args Ts own E) (hH : HFS E s.heap f H locs) {C : String} {T : u_T} {N ci index : Nat} (k : Nat) (hfr : k ∉ eK E) {fs : List Value} (hin : ∀ w ∈ u_ws C T N, w ∈ Ts) (ty : Nat → FieldType) (hty : ∀ k, k < N → parseFieldDescriptor (T k).2.2.1 = some (ty k)) (hcl : (Cond.classLink own index C).before args s = true) (hinst : (Cond.instantiable C N).before args s = true) (hini : (Cond.initialized C).before args s = true) (hc : vwCl[ci]? = some (C, T, N)) (hfs : ∀ j, j < N → defaultValue (ty j) = vp_V fs j) (hcells : cells + 1 ≤ R.cells) (hslots : slots + N ≤ R.slots) (hdg : decode cc pc = .ok (.new index, 3))
    (kk : ∀ (q : Nat) (H1 : Heap), HFS (eNew E k q) s.heap (va_up f k (.inr (ci, fs))) H1 locs → W p l e R s m args below meth c H1 locs (cells + 1) (slots + N) Q (F0 m (pc + 3) ls (.ref q :: rest))) : W p l e R s m args below meth c H locs cells slots Q (F0 m pc ls rest) := by
  refine va_new (ci := ci) (fs := fs) (C := C) (T := T) (N := N) F.1.1 F.1.2.1 F.1.2.2.2.2 hin ty hty F.1.2.2.2.1 hcl hinst hini F.2.1 hH.1.1 hH.1.2 hH.2 F.2.2.1 hc hfs hcells hslots hdg (fun q H1 hP hD hS => kk q H1 ⟨⟨?_, ?_⟩, hS⟩)
  · show va_P (eD E) vwCl (kw (eK E ++ [k]) (va_up (eAd E) k q) (va_up f k (.inr (ci, fs)))) H1
    rw [kw_push hfr]
    exact hP
  · show va_D (eA E) (kw (eK E ++ [k]) (va_up (eAd E) k q) (va_up f k (.inr (ci, fs))))
    rw [kw_push hfr]
    exact hD
theorem r_newa (F : FX p m c cc nL s args Ts own E) (hH : HFS E s.heap f H locs) (k : Nat) (hfr : k ∉ eK E) (harr : (Cond.arrayClass .int).before args s = true) {n : Int32} (N : Nat) (hn : n = nI N) (hN : N < 1000) (hcells : cells + 1 ≤ R.cells) (hslots : slots + N ≤ R.slots) (hdg : decode cc pc = .ok (.newarray .int, 2))
    (kk : ∀ (q : Nat) (H1 : Heap), HFS (eNew E k q) s.heap (va_up f k (.inl (eI E, N, .inl (fun _ => 0)))) H1 locs → W p l e R s m args below meth c H1 locs (cells + 1) (slots + N) Q (F0 m (pc + 2) ls (.ref q :: rest))) : W p l e R s m args below meth c H locs cells slots Q (F0 m pc ls (.int n :: rest)) := by
  subst hn
  refine va_newa (atype := .int) (ty := .int) (N' := N) (a0 := (N, .inl (fun _ => 0))) F.1.1 F.1.2.1 harr rfl F.2.1 hH.1.1 hH.1.2 hH.2 F.2.2.1 (fun _ => rfl) (nI_pos (by omega)) (nI_clamp (by omega)) (by show N * 4 ≤ _; omega) hcells hslots hdg (fun q cA H1 hK hP hD hS => ?_)
  have e1 : s.vm.findClass ("[" ++ FieldType.int.toString) = some cA := (hK.2 2 _ rfl).2
  have e2 : s.vm.findClass ("[" ++ FieldType.int.toString) = some (eI E) := (F.2.1.2 0 _ rfl).2
  have e3 : cA = eI E := Option.some.inj (e1.symm.trans e2)
  subst e3
  refine kk q H1 ⟨⟨?_, ?_⟩, hS⟩
  · show va_P (eD E) vwCl (kw (eK E ++ [k]) (va_up (eAd E) k q) (va_up f k _)) H1
    rw [kw_push hfr]
    exact hP
  · show va_D (eA E) (kw (eK E ++ [k]) (va_up (eAd E) k q) (va_up f k _))
    rw [kw_push hfr]
    exact hD
theorem r_anew (F : FX p m c cc nL s args Ts own E) (hH : HFS E s.heap f H locs) (k : Nat) (hfr : k ∉ eK E) {index : Nat} (hclink : (Cond.classLink own index "java/lang/Object").before args s = true) {n : Int32} (N : Nat) (hn : n = nI N) (hN : N < 1000) (hcells : cells + 1 ≤ R.cells) (hslots : slots + N ≤ R.slots) (hdg : decode cc pc = .ok (.anewarray index, 3))
    (kk : ∀ (q : Nat) (H1 : Heap), HFS (eNew E k q) s.heap (va_up f k (.inl (eO E, N, .inr (.inr (.inr (.inr (fun _ => none))))))) H1 locs → W p l e R s m args below meth c H1 locs (cells + 1) (slots + N) Q (F0 m (pc + 3) ls (.ref q :: rest))) : W p l e R s m args below meth c H locs cells slots Q (F0 m pc ls (.int n :: rest)) := by
  subst hn
  refine va_newq (C := "java/lang/Object") F.1.1 F.1.2.1 F.1.2.2.2.1 hclink F.2.2.2.1.2.2.2.1 F.2.1 hH.1.1 hH.1.2 hH.2 F.2.2.1 (nI_pos (by omega)) (nI_clamp (by omega)) (by omega) hcells hslots hdg (fun q cA H1 hK hP hD hS => ?_)
  obtain ⟨kA, comp, -, -, -, e1⟩ := (hK.2 2 _ rfl).2
  obtain ⟨kB, comp2, -, -, -, e2⟩ := (F.2.1.2 1 _ rfl).2
  have e3 : cA = eO E := Option.some.inj (e1.symm.trans e2)
  subst e3
  refine kk q H1 ⟨⟨?_, ?_⟩, hS⟩
  · show va_P (eD E) vwCl (kw (eK E ++ [k]) (va_up (eAd E) k q) (va_up f k _)) H1
    rw [kw_push hfr]
    exact hP
  · show va_D (eA E) (kw (eK E ++ [k]) (va_up (eAd E) k q) (va_up f k _))
    rw [kw_push hfr]
    exact hD
theorem r_alenI (F : FX p m c cc nL s args Ts own E) (hH : HFS E s.heap f H locs) {k n a : Nat} {g : Nat → Int32} (hk : k ∈ eK E) (ha : eAd E k = a) (he : f k = .inl (eI E, n, .inl g)) (hdg : decode cc pc = .ok (.arraylength, 1))
    (kk : W p l e R s m args below meth c H locs cells slots Q (F0 m (pc + 1) ls (.int (nI n) :: rest))) : W p l e R s m args below meth c H locs cells slots Q (F0 m pc ls (.ref a :: rest)) := by
  subst ha
  obtain ⟨q, hq⟩ := kw_get (f := f) (ad := eAd E) hk
  exact va_alen (x := (n, .inl g)) (v := nI n) F.1.1 F.1.2.1 F.2.1 hH.1.1 q 0 (hq.trans (by rw [he])) rfl rfl hdg kk
theorem r_alenO (F : FX p m c cc nL s args Ts own E) (hH : HFS E s.heap f H locs) {k n a : Nat} {g : Nat → Option Nat} (hk : k ∈ eK E) (ha : eAd E k = a) (he : f k = .inl (eO E, n, .inr (.inr (.inr (.inr g))))) (hdg : decode cc pc = .ok (.arraylength, 1))
    (kk : W p l e R s m args below meth c H locs cells slots Q (F0 m (pc + 1) ls (.int (nI n) :: rest))) : W p l e R s m args below meth c H locs cells slots Q (F0 m pc ls (.ref a :: rest)) := by
  subst ha
  obtain ⟨q, hq⟩ := kw_get (f := f) (ad := eAd E) hk
  exact va_alen (x := (n, .inr (.inr (.inr (.inr g))))) (v := nI n) F.1.1 F.1.2.1 F.2.1 hH.1.1 q 1 (hq.trans (by rw [he])) rfl rfl hdg kk
theorem r_iast (F : FX p m c cc nL s args Ts own E) (hH : HFS E s.heap f H locs) {k n a : Nat} {g : Nat → Int32} (hk : k ∈ eK E) (ha : eAd E k = a) (he : f k = .inl (eI E, n, .inl g)) {i x : Int32} (j : Nat) (hi : i = nI j) (hj : j < n) (hn : n < 2 ^ 31) (hdg : decode cc pc = .ok (.iastore, 1))
    (kk : ∀ (H1 : Heap) (locs1 : List Loc), HFS E s.heap (va_up f k (.inl (eI E, n, .inl (upd g j x)))) H1 locs1 → W p l e R s m args below meth c H1 locs1 cells slots Q (F0 m (pc + 1) ls rest)) : W p l e R s m args below meth c H locs cells slots Q (F0 m pc ls (.int x :: .int i :: .ref a :: rest)) := by
  subst ha
  obtain ⟨q, hq⟩ := kw_get (f := f) (ad := eAd E) hk
  subst hi
  refine va_iast F.1.1 F.1.2.1 F.2.1 hH.1.1 hH.1.2 hH.2 q 0 (hq.trans (by rw [he])) rfl (vp_in_nI hj hn) hdg (fun H1 locs1 hP hD hS => kk H1 locs1 ⟨⟨?_, ?_⟩, hS⟩)
  · rw [nI_clamp (by omega), kw_set hH.1.2 hk hq] at hP
    exact hP
  · rw [nI_clamp (by omega), kw_set hH.1.2 hk hq] at hD
    exact hD
theorem r_aast (F : FX p m c cc nL s args Ts own E) (hH : HFS E s.heap f H locs) {k n a kb b : Nat} {g : Nat → Option Nat} {fs : List Value} (hk : k ∈ eK E) (ha : eAd E k = a) (he : f k = .inl (eO E, n, .inr (.inr (.inr (.inr g))))) (hkb : kb ∈ eK E) (hb' : eAd E kb = b) (heb : f kb = .inr (1, fs)) {i : Int32} (j : Nat) (hi : i = nI j) (hj : j < n) (hn : n < 2 ^ 31) (hdg : decode cc pc = .ok (.aastore, 1))
    (kk : ∀ (H1 : Heap) (locs1 : List Loc), HFS E s.heap (va_up f k (.inl (eO E, n, .inr (.inr (.inr (.inr (va_up g j (some b)))))))) H1 locs1 → W p l e R s m args below meth c H1 locs1 cells slots Q (F0 m (pc + 1) ls rest)) : W p l e R s m args below meth c H locs cells slots Q (F0 m pc ls (.ref b :: .int i :: .ref a :: rest)) := by
  subst ha
  subst hb'
  obtain ⟨q, hq⟩ := kw_get (f := f) (ad := eAd E) hk
  obtain ⟨q2, hq2⟩ := kw_get (f := f) (ad := eAd E) hkb
  subst hi
  refine va_astqO (E := "java/lang/Object") (r := (RX0, TX0, 3)) F.1.1 F.1.2.1 F.2.1 hH.1.1 hH.1.2 hH.2 q 1 q2 1 (hq.trans (by rw [he])) rfl F.2.2.2.1.2.2.1 (hq2.trans (by rw [heb])) rfl (vp_in_nI hj hn) hdg (fun H1 locs1 hP hD hS => kk H1 locs1 ⟨⟨?_, ?_⟩, hS⟩)
  · rw [nI_clamp (by omega), kw_set hH.1.2 hk hq] at hP
    exact hP
  · rw [nI_clamp (by omega), kw_set hH.1.2 hk hq] at hD
    exact hD
/-- calls over such worlds: what the callee leaves is told by its own words B -/
theorem r_vv (F : FX p m c cc nL s args Ts own E) (hH : HFS E s.heap f H locs) {y : MethodName} {ws' : List Cond} {rm' : Room} {As : List Value} {bytes : ByteArray} {maxL n index N ci k b mc ms : Nat} {ret : Option FieldType} {C : String} {T : u_T} {fs : List Value} {S : Type} {post : S → Prop} {B : S → State → Prop} (hM : Met l y ws' rm' (va_Pc (.ref b :: As) (WF E f)) (va_Qv post B (eA E)) mc ms (eA E)) (cw : CallW R s args own C index y bytes maxL ret ws' rm' mc ms n) (hk : k ∈ eK E) (ha : eAd E k = b) (he : f k = .inr (ci, fs)) (hc : vwCl[ci]? = some (C, T, N)) (hn : As.length = n) (hls : ls.size = nL) (rest : List Value) (hst : st0 = As.reverse ++ .ref b :: rest) (hW : (rest.map fun v => v.category).sum ≤ 8) (hdg : decode cc pc = .ok (.invokevirtual index, 3)) (hf : cells + mc ≤ R.cells ∧ slots + ms ≤ R.slots)
    (kk : ∀ (u : S) (t : State) (H1 : Heap) (locs1 : List Loc), t.heap = H1 → post u → B u t → va_S (eA E) s.heap H1 locs1 → W p l e R s m args below meth c H1 locs1 (cells + mc) (slots + ms) Q (F0 m (pc + 3) ls rest)) : W p l e R s m args below meth c H locs cells slots Q (F0 m pc ls st0) := by
  subst ha
  obtain ⟨q, hq⟩ := kw_get (f := f) (ad := eAd E) hk
  exact va_callv (va_runV (As := As) (rest := rest) F.1 hM cw ⟨WF.blind, va_recv F.2.1 hH.1.1 hc (hq.trans (by rw [he])), fun U hU hWm => ⟨rfl, by rw [hU]; exact hH.1, F.2.pass hH.2 hU hWm⟩⟩ rfl hn hls hst (lv_room hW) hdg hf) hH.2 (fun q _ h => h) (fun q h => h) (fun u t H1 locs1 ht hvm hw hB hz hk1 hS => kk u t H1 locs1 ht hw hB hS)
theorem r_vi (F : FX p m c cc nL s args Ts own E) (hH : HFS E s.heap f H locs) {y : MethodName} {ws' : List Cond} {rm' : Room} {As : List Value} {bytes : ByteArray} {maxL n index N ci k b mc ms : Nat} {ret : Option FieldType} {C : String} {T : u_T} {fs : List Value} {S : Type} {post : Int32 → S → Prop} {B : S → State → Prop} (hM : Met l y ws' rm' (va_Pc (.ref b :: As) (WF E f)) (va_Qi post B (eA E)) mc ms (eA E)) (cw : CallW R s args own C index y bytes maxL ret ws' rm' mc ms n) (hk : k ∈ eK E) (ha : eAd E k = b) (he : f k = .inr (ci, fs)) (hc : vwCl[ci]? = some (C, T, N)) (hn : As.length = n) (hls : ls.size = nL) (rest : List Value) (hst : st0 = As.reverse ++ .ref b :: rest) (hW : (rest.map fun v => v.category).sum ≤ 8) (hdg : decode cc pc = .ok (.invokevirtual index, 3)) (hf : cells + mc ≤ R.cells ∧ slots + ms ≤ R.slots)
    (kk : ∀ (r : Int32) (u : S) (t : State) (H1 : Heap) (locs1 : List Loc), t.heap = H1 → post r u → B u t → va_S (eA E) s.heap H1 locs1 → W p l e R s m args below meth c H1 locs1 (cells + mc) (slots + ms) Q (F0 m (pc + 3) ls (.int r :: rest))) : W p l e R s m args below meth c H locs cells slots Q (F0 m pc ls st0) := by
  subst ha
  obtain ⟨q, hq⟩ := kw_get (f := f) (ad := eAd E) hk
  exact va_calli (va_runV (As := As) (rest := rest) F.1 hM cw ⟨WF.blind, va_recv F.2.1 hH.1.1 hc (hq.trans (by rw [he])), fun U hU hWm => ⟨rfl, by rw [hU]; exact hH.1, F.2.pass hH.2 hU hWm⟩⟩ rfl hn hls hst (lv_room hW) hdg hf) hH.2 (fun q _ h => h) (fun q h => h) (fun r u t H1 locs1 ht hvm hw hB hz hk1 hS => kk r u t H1 locs1 ht hw hB hS)
theorem r_vr (F : FX p m c cc nL s args Ts own E) (hH : HFS E s.heap f H locs) {y : MethodName} {ws' : List Cond} {rm' : Room} {As : List Value} {bytes : ByteArray} {maxL n index N ci k b mc ms : Nat} {ret : Option FieldType} {C : String} {T : u_T} {fs : List Value} {S : Type} {post : S → Prop} {B : S → Nat → State → Prop} (hM : Met l y ws' rm' (va_Pc (.ref b :: As) (WF E f)) (va_Qr post B (eA E)) mc ms (eA E)) (cw : CallW R s args own C index y bytes maxL ret ws' rm' mc ms n) (hk : k ∈ eK E) (ha : eAd E k = b) (he : f k = .inr (ci, fs)) (hc : vwCl[ci]? = some (C, T, N)) (hn : As.length = n) (hls : ls.size = nL) (rest : List Value) (hst : st0 = As.reverse ++ .ref b :: rest) (hW : (rest.map fun v => v.category).sum ≤ 8) (hdg : decode cc pc = .ok (.invokevirtual index, 3)) (hf : cells + mc ≤ R.cells ∧ slots + ms ≤ R.slots)
    (kk : ∀ (u : S) (a : Nat) (t : State) (H1 : Heap) (locs1 : List Loc), t.heap = H1 → post u → B u a t → va_S (eA E) s.heap H1 locs1 → W p l e R s m args below meth c H1 locs1 (cells + mc) (slots + ms) Q (F0 m (pc + 3) ls (.ref a :: rest))) : W p l e R s m args below meth c H locs cells slots Q (F0 m pc ls st0) := by
  subst ha
  obtain ⟨q, hq⟩ := kw_get (f := f) (ad := eAd E) hk
  exact va_callr (va_runV (As := As) (rest := rest) F.1 hM cw ⟨WF.blind, va_recv F.2.1 hH.1.1 hc (hq.trans (by rw [he])), fun U hU hWm => ⟨rfl, by rw [hU]; exact hH.1, F.2.pass hH.2 hU hWm⟩⟩ rfl hn hls hst (lv_room hW) hdg hf) hH.2 (fun q _ h => h) (fun q h => h) (fun u a t H1 locs1 ht hvm hw hB hz hk1 hS => kk u a t H1 locs1 ht hw hB hS)
theorem r_sv (F : FX p m c cc nL s args Ts own E) (hH : HFS E s.heap f H locs) {y : MethodName} {ws' : List Cond} {rm' : Room} {As : List Value} {bytes : ByteArray} {maxL n index mc ms : Nat} {ret : Option FieldType} {S : Type} {post : S → Prop} {B : S → State → Prop} (hM : Met l y ws' rm' (va_Pc As (WF E f)) (va_Qv post B (eA E)) mc ms (eA E)) (cw : CallB R s args own index y bytes maxL ret ws' rm' mc ms n ∧ (Cond.static y).before args s = true) (hn : As.length = n) (hls : ls.size = nL) (rest : List Value) (hst : st0 = As.reverse ++ rest) (hW : (rest.map fun v => v.category).sum ≤ 8) (hdg : decode cc pc = .ok (.invokestatic index, 3)) (hf : cells + mc ≤ R.cells ∧ slots + ms ≤ R.slots)
    (kk : ∀ (u : S) (t : State) (H1 : Heap) (locs1 : List Loc), t.heap = H1 → post u → B u t → va_S (eA E) s.heap H1 locs1 → W p l e R s m args below meth c H1 locs1 (cells + mc) (slots + ms) Q (F0 m (pc + 3) ls rest)) : W p l e R s m args below meth c H locs cells slots Q (F0 m pc ls st0) := by
  exact va_callv (va_runS (As := As) (rest := rest) F.1 hM cw ⟨WF.blind, fun U hU hWm => ⟨rfl, by rw [hU]; exact hH.1, F.2.pass hH.2 hU hWm⟩⟩ rfl hn hls hst (lv_room hW) hdg hf) hH.2 (fun q _ h => h) (fun q h => h) (fun u t H1 locs1 ht hvm hw hB hz hk1 hS => kk u t H1 locs1 ht hw hB hS)
theorem r_iv (F : FX p m c cc nL s args Ts own E) (hH : HFS E s.heap f H locs) {y : MethodName} {ws' : List Cond} {rm' : Room} {As : List Value} {bytes : ByteArray} {maxL n index b mc ms : Nat} {S : Type} {post : S → Prop} {B : S → State → Prop} (hM : Met l y ws' rm' (va_Pc (.ref b :: As) (WF E f)) (va_Qv post B (eA E)) mc ms (eA E)) (cw : CallB R s args own index y bytes maxL none ws' rm' mc ms n ∧ y.name = "<init>" ∧ (Cond.instanceMethod y).before args s = true) (hn : As.length = n) (hls : ls.size = nL) (rest : List Value) (hst : st0 = As.reverse ++ .ref b :: rest) (hW : (rest.map fun v => v.category).sum ≤ 8) (hdg : decode cc pc = .ok (.invokespecial index, 3)) (hf : cells + mc ≤ R.cells ∧ slots + ms ≤ R.slots)
    (kk : ∀ (u : S) (t : State) (H1 : Heap) (locs1 : List Loc), t.heap = H1 → post u → B u t → va_S (eA E) s.heap H1 locs1 → W p l e R s m args below meth c H1 locs1 (cells + mc) (slots + ms) Q (F0 m (pc + 3) ls rest)) : W p l e R s m args below meth c H locs cells slots Q (F0 m pc ls st0) := by
  exact va_callv (va_runI (As := As) (rest := rest) F.1 hM cw ⟨WF.blind, fun U hU hWm => ⟨rfl, by rw [hU]; exact hH.1, F.2.pass hH.2 hU hWm⟩⟩ rfl hn hls hst (lv_room hW) hdg hf) hH.2 (fun q _ h => h) (fun q h => h) (fun u t H1 locs1 ht hvm hw hB hz hk1 hS => kk u t H1 locs1 ht hw hB hS)
theorem r_inv (F : FX p m c cc nL s args Ts own E) (hH : HFS E s.heap f H locs) {y : MethodName} {host : String} {ws' : List Cond} {rm' : Room} {As : List Value} {bytes : ByteArray} {maxL n index b mc ms : Nat} {S : Type} {post : S → Prop} {B : S → State → Prop} (hM : Met l y ws' rm' (va_Pc (.ref b :: As) (WF E f)) (va_Qv post B (eA E)) mc ms (eA E)) (cw : va_CN R s args own index y host bytes maxL none ws' rm' mc ms n ∧ y.name = "<init>" ∧ (Cond.instanceMethod y).before args s = true) (hn : As.length = n) (hls : ls.size = nL) (rest : List Value) (hst : st0 = As.reverse ++ .ref b :: rest) (hW : (rest.map fun v => v.category).sum ≤ 8) (hdg : decode cc pc = .ok (.invokespecial index, 3)) (hf : cells + mc ≤ R.cells ∧ slots + ms ≤ R.slots)
    (kk : ∀ (u : S) (t : State) (H1 : Heap) (locs1 : List Loc), t.heap = H1 → post u → B u t → va_S (eA E) s.heap H1 locs1 → W p l e R s m args below meth c H1 locs1 (cells + mc) (slots + ms) Q (F0 m (pc + 3) ls rest)) : W p l e R s m args below meth c H locs cells slots Q (F0 m pc ls st0) := by
  exact va_callv (va_runIN (As := As) (rest := rest) F.1 hM cw ⟨WF.blind, fun U hU hWm => ⟨rfl, by rw [hU]; exact hH.1, F.2.pass hH.2 hU hWm⟩⟩ rfl hn hls hst (lv_room hW) hdg hf) hH.2 (fun q _ h => h) (fun q h => h) (fun u t H1 locs1 ht hvm hw hB hz hk1 hS => kk u t H1 locs1 ht hw hB hS)
end RK
/-- entry of a method over such a world -/
theorem RF.of {l : Launch} {y : MethodName} {ws ws' : List Cond} {rm : Room} {E : Ev} {f : Nat → va_E} {av : List Value} {Qc : Array Value → State → Outcome → State → Prop} {mc ms : Nat} {cc : ByteArray} {maxL : Nat} {ret : Option FieldType} {own : String} (hy : plainName y.cls = true) (hw : ws = Cond.code y cc maxL ret :: ws') (ho : y.cls = own) (hml : (lg_sl av).length ≤ maxL)
    (body : ∀ (p : Program) (e : Env) (s : State) (m : MethodId) (below : List Frame) (meth : Method) (c : Code), FX p m c cc maxL s av.toArray ws own E → meth.sig.returnType = ret → meth.locks = false → meth.name = y.name → ∀ ls, lv_has ls maxL (lv_args 0 av) → HFS E s.heap f s.heap [] → W p l e rm s m av.toArray below meth c s.heap [] 0 0 (MQ below Qc av.toArray s mc ms (eA E)) (F0 m 0 ls [])) : Met l y ws rm (va_Pc av (WF E f)) Qc mc ms (eA E) := by
  refine Met.ofW (cc := cc) (maxL := maxL) (ret := ret) hy hw ?_
  intro p e s m args below meth c s₁ B hml' hv
  obtain ⟨rfl, hP, hK⟩ := hv
  have hts := atoms_spec (ws := ws) B.pre
  have hown : s.vm.findClass y.cls = some m.cls := findClass_of_methodNamed B.named
  rw [ho] at hown
  have hl := lv_entry av (n := maxL) hml
  rw [lg_entry_eq]
  exact body p e s m below meth c ⟨⟨B.exec, B.bytes, hml', hown, hts⟩, hK⟩ B.returns B.notSynchronized (name_of_methodNamed B.named B.method).1 _ hl ⟨hP, va_S.rf⟩

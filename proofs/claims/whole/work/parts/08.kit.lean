/-! ===== worlds by keys: a key names a cell; ints lie in a memory (key, slot) ===== -/
abbrev Mem : Type := Nat → Nat → Int32
abbrev Ev : Type := va_G × (Nat → Prop) × List Nat × (Nat → Nat) × (Nat → Nat) × (Nat → Nat) × Nat × ClassId × ClassId
def eD (E : Ev) : va_G := E.1
def eA (E : Ev) : Nat → Prop := E.2.1
def eK (E : Ev) : List Nat := E.2.2.1
def eAd (E : Ev) : Nat → Nat := E.2.2.2.1
def eNb (E : Ev) : Nat → Nat := E.2.2.2.2.1
def eLn (E : Ev) : Nat → Nat := E.2.2.2.2.2.1
def eZ (E : Ev) : Nat := E.2.2.2.2.2.2.1
def eI (E : Ev) : ClassId := E.2.2.2.2.2.2.2.1
def eO (E : Ev) : ClassId := E.2.2.2.2.2.2.2.2
def kw (K : List Nat) (ad : Nat → Nat) (f : Nat → va_E) : va_W := K.map (fun k => (ad k, f k))
theorem kw_get {K : List Nat} {ad : Nat → Nat} {f : Nat → va_E} {k : Nat} (h : k ∈ K) : ∃ p : Nat, (kw K ad f)[p]? = some (ad k, f k) := by
  obtain ⟨p, hp⟩ := List.getElem?_of_mem h
  exact ⟨p, by simp [kw, hp]⟩
theorem kw_set {A : Nat → Prop} {K : List Nat} {ad : Nat → Nat} {f : Nat → va_E} {k p : Nat} {e : va_E} (hD : va_D A (kw K ad f)) (hk : k ∈ K) (hp : (kw K ad f)[p]? = some (ad k, f k)) : (kw K ad f).set p (ad k, e) = kw K ad (va_up f k e) := by
  obtain ⟨p2, hp2⟩ := List.getElem?_of_mem hk
  have e2 : (kw K ad f)[p2]? = some (ad k, f k) := by simp [kw, hp2]
  have h0 : p = p2 := hD.1 p p2 _ _ hp e2 rfl
  subst h0
  have hlt : p < (kw K ad f).length := (List.getElem?_eq_some_iff.mp hp).1
  apply List.ext_getElem?
  intro i
  by_cases hi : i = p
  · subst hi
    rw [List.getElem?_set_self hlt]
    simp [kw, hp2, va_up]
  · rw [List.getElem?_set_ne (Ne.symm hi)]
    simp only [kw, List.getElem?_map]
    cases hK : K[i]? with
    | none => rfl
    | some k2 =>
      have h2 : k2 ≠ k := fun h => hi (hD.1 i p (ad k2, f k2) (ad k, f k) (by simp [kw, hK]) e2 (by rw [h]))
      simp [va_up, h2]
/-- the keys of board j of load i: its object, its row -/
def bo (i j : Nat) : Nat := 100 + 20 * i + j
def ba (i j : Nat) : Nat := 110 + 20 * i + j
def mlen (k : Nat) : Nat := if k = 16 then 6 else if k = 17 then 54 else if k = 18 then 6 else if k = 19 then 6 else if k = 20 then 10 else if k = 21 then 8 else if k = 22 then 8 else if k = 23 then 54 else if k = 24 then 6 else if k = 25 then 54 else 300
def eEl (E : Ev) (i : Nat) : Nat := if eNb E i = 0 then eZ E else eAd E (12 + i)
def eRow (E : Ev) (i : Nat) : Nat → Option Nat := fun j => if j < eNb E i then some (eAd E (bo i j)) else none
/-- the model's numbers of layers -/
def lrow (E : Ev) : Nat → Int32 := fun j => if j < eNb E 4 then nI (eLn E j) else 0
theorem lrow_at {E : Ev} {j : Nat} (h : j < eNb E 4) : lrow E j = nI (eLn E j) := if_pos h
/-- a cell by its key, with its ints -/
def celq (E : Ev) (g : Nat → Int32) (k : Nat) : va_E :=
  if k = 0 then .inr (5, [.ref (eAd E 1), .ref (eAd E 2), .ref (eAd E 5), .ref (eAd E 6), .ref (eAd E 7), .ref (eAd E 11), .int (g 6), .int (g 7)])
  else if k = 1 then .inr (4, [.int (g 0), .int (g 1), .int (g 2), .int (g 3), .int (g 4), .int (g 5)])
  else if k = 2 then .inr (3, [.ref (eAd E 3), .ref (eAd E 4), .int (g 2)])
  else if k ≤ 4 then .inl (eI E, 8, .inl g)
  else if k ≤ 7 then .inr (2, [.int (g 0), .int (g 1), .ref (eAd E (k + 3))])
  else if k ≤ 10 then .inr (0, [.int (g 0), .ref (eEl E (k - 8)), .int (nI (eNb E (k - 8)))])
  else if k = 11 then .inl (eI E, 300, .inl g)
  else if k ≤ 14 then .inl (eO E, 10, .inr (.inr (.inr (.inr (eRow E (k - 12))))))
  else if k = 15 then .inr (6, [.int (nI (eNb E 3)), .ref (eAd E 16), .ref (eAd E 17), .ref (eAd E 18), .ref (eAd E 19), .int (g 5), .int (g 6), .int (g 7), .int (g 8), .int (g 9), .int (g 10), .int (g 11), .int (g 12), .int (g 13), .int (g 14), .ref (eAd E 20), .int (g 16), .ref (eAd E 21), .ref (eAd E 22), .ref (eAd E 23), .ref (eAd E 24), .ref (eAd E 25), .ref (eAd E 26), .int (g 23)])
  else if k = 16 then .inl (eI E, 6, .inl (lrow E))
  else if k ≤ 26 then .inl (eI E, mlen k, .inl g)
  else if (k - 100) % 20 < 10 then .inr (1, [.ref (eAd E (k + 10)), .int (g 1), .int (g 2)])
  else .inl (eI E, eLn E ((k - 100) % 20 - 10), .inl g)
theorem cq_kiln (E : Ev) (g : Nat → Int32) : celq E g 0 = .inr (5, [.ref (eAd E 1), .ref (eAd E 2), .ref (eAd E 5), .ref (eAd E 6), .ref (eAd E 7), .ref (eAd E 11), .int (g 6), .int (g 7)]) := rfl
theorem cq_set (E : Ev) (g : Nat → Int32) : celq E g 1 = .inr (4, [.int (g 0), .int (g 1), .int (g 2), .int (g 3), .int (g 4), .int (g 5)]) := rfl
theorem cq_sch (E : Ev) (g : Nat → Int32) : celq E g 2 = .inr (3, [.ref (eAd E 3), .ref (eAd E 4), .int (g 2)]) := rfl
theorem cq_th (E : Ev) (g : Nat → Int32) : celq E g 3 = .inl (eI E, 8, .inl g) := rfl
theorem cq_in (E : Ev) (g : Nat → Int32) : celq E g 4 = .inl (eI E, 8, .inl g) := rfl
theorem cq_ld (E : Ev) (g : Nat → Int32) {i : Nat} (hi : i < 3) : celq E g (5 + i) = .inr (2, [.int (g 0), .int (g 1), .ref (eAd E (8 + i))]) := by
  rcases (show i = 0 ∨ i = 1 ∨ i = 2 by omega) with rfl | rfl | rfl <;> rfl
theorem cq_li (E : Ev) (g : Nat → Int32) {i : Nat} (hi : i < 3) : celq E g (8 + i) = .inr (0, [.int (g 0), .ref (eEl E i), .int (nI (eNb E i))]) := by
  rcases (show i = 0 ∨ i = 1 ∨ i = 2 by omega) with rfl | rfl | rfl <;> rfl
theorem cq_pl (E : Ev) (g : Nat → Int32) : celq E g 11 = .inl (eI E, 300, .inl g) := rfl
theorem cq_el (E : Ev) (g : Nat → Int32) {i : Nat} (hi : i < 3) : celq E g (12 + i) = .inl (eO E, 10, .inr (.inr (.inr (.inr (eRow E i))))) := by
  rcases (show i = 0 ∨ i = 1 ∨ i = 2 by omega) with rfl | rfl | rfl <;> rfl
theorem cq_mo (E : Ev) (g : Nat → Int32) : celq E g 15 = .inr (6, [.int (nI (eNb E 3)), .ref (eAd E 16), .ref (eAd E 17), .ref (eAd E 18), .ref (eAd E 19), .int (g 5), .int (g 6), .int (g 7), .int (g 8), .int (g 9), .int (g 10), .int (g 11), .int (g 12), .int (g 13), .int (g 14), .ref (eAd E 20), .int (g 16), .ref (eAd E 21), .ref (eAd E 22), .ref (eAd E 23), .ref (eAd E 24), .ref (eAd E 25), .ref (eAd E 26), .int (g 23)]) := rfl
theorem cq_ma (E : Ev) (g : Nat → Int32) {k : Nat} (h1 : 17 ≤ k) (h2 : k ≤ 26) : celq E g k = .inl (eI E, mlen k, .inl g) := by
  unfold celq
  rw [if_neg (by omega), if_neg (by omega), if_neg (by omega), if_neg (by omega), if_neg (by omega), if_neg (by omega), if_neg (by omega), if_neg (by omega), if_neg (by omega), if_neg (by omega), if_pos h2]
theorem cq_bo (E : Ev) (g : Nat → Int32) {i j : Nat} (hj : j < 10) : celq E g (bo i j) = .inr (1, [.ref (eAd E (ba i j)), .int (g 1), .int (g 2)]) := by
  unfold celq bo ba
  rw [if_neg (by omega), if_neg (by omega), if_neg (by omega), if_neg (by omega), if_neg (by omega), if_neg (by omega), if_neg (by omega), if_neg (by omega), if_neg (by omega), if_neg (by omega), if_neg (by omega), if_pos (by omega)]
  rw [show 100 + 20 * i + j + 10 = 110 + 20 * i + j by omega]
theorem cq_ba (E : Ev) (g : Nat → Int32) {i j : Nat} (hj : j < 10) : celq E g (ba i j) = .inl (eI E, eLn E j, .inl g) := by
  unfold celq ba
  rw [if_neg (by omega), if_neg (by omega), if_neg (by omega), if_neg (by omega), if_neg (by omega), if_neg (by omega), if_neg (by omega), if_neg (by omega), if_neg (by omega), if_neg (by omega), if_neg (by omega), if_neg (by omega)]
  rw [show (110 + 20 * i + j - 100) % 20 - 10 = j by omega]
def cel (E : Ev) (v : Mem) : Nat → va_E := fun k => celq E (v k) k
/-- one int written -/
def st (v : Mem) (k j : Nat) (x : Int32) : Mem := va_up v k (upd (v k) j x)
theorem cel_up (E : Ev) (v : Mem) (k : Nat) (g : Nat → Int32) : cel E (va_up v k g) = va_up (cel E v) k (celq E g k) := by
  funext q
  by_cases h : q = k
  · subst h; simp [cel, va_up]
  · simp [cel, va_up, h]
def EO (E : Ev) : Prop := (∀ k, k < 12 → k ∈ eK E) ∧ (∀ k, 15 ≤ k → k ≤ 26 → k ∈ eK E) ∧ (∀ i, i < 3 → eNb E i ≠ 0 → 12 + i ∈ eK E) ∧ (∀ i j, i < 3 → j < eNb E i → bo i j ∈ eK E ∧ ba i j ∈ eK E) ∧ (∀ i, i < 4 → eNb E i ≤ 6) ∧ (∀ j, j < 6 → 3 ≤ eLn E j ∧ eLn E j ≤ 9) ∧ eNb E 3 ≤ eNb E 4
def HP (E : Ev) (v : Mem) (H : Heap) : Prop := va_P (eD E) vwCl (kw (eK E) (eAd E) (cel E v)) H ∧ va_D (eA E) (kw (eK E) (eAd E) (cel E v))
def HS (E : Ev) (H0 : Heap) (v : Mem) (H : Heap) (locs : List Loc) : Prop := HP E v H ∧ va_S (eA E) H0 H locs
abbrev tysE (E : Ev) : List (ClassId × FieldType) := [(eI E, .int), (eO E, .object "java/lang/Object")]
def NW (U : State) : Prop := va_Nw (.methodLinkNest RX0 33 yX4_quotient "DryingKiln") U ∧ va_Nw (.methodLinkNest RX1 69 yX4_quotient "DryingKiln") U ∧ va_Nw (.castable RX0 "java/lang/Object") U ∧ va_AO "java/lang/Object" U ∧ va_Nw (.methodLinkNest RX4 9 yX3_init "DryingKiln") U ∧ va_Nw (.methodLinkNest RX4 18 yX2_init "DryingKiln") U ∧ va_Nw (.methodLinkNest RX4 25 yX1_init "DryingKiln") U
def ZW (E : Ev) (U : State) : Prop := va_Z "java/util/ArrayList" "DEFAULTCAPACITY_EMPTY_ELEMENTDATA" "[Ljava/lang/Object;" (.ref (eZ E)) (eA E) U U.heap ∧ va_T (.object "java/lang/Object") (eZ E) 0 (fun _ => .null) (eA E) U U.heap
def KS (E : Ev) (U : State) : Prop := va_K (eD E) vwCl (tysE E) U ∧ (∀ q, U.heap.size ≤ q → eA E q) ∧ NW U ∧ ZW E U
def WD (E : Ev) (v : Mem) (U : State) : Prop := HP E v U.heap ∧ KS E U
theorem KS.blind {E : Ev} {U : State} {g : JFrame} {mk : MethodId} {a : Array Value} (h : KS E U) : KS E (U.calling g mk a) := by
  obtain ⟨h1, h2, ⟨n1, n2, n3, n4, n5, n6, n7⟩, z1, z2⟩ := h
  exact ⟨va_K.moved (u := U) (U := U.calling g mk a) (Vm.Alike.refl U.vm) h1, h2, ⟨va_Nw.same rfl rfl n1, va_Nw.same rfl rfl n2, va_Nw.same rfl rfl n3, va_AO.moved (u := U) (U := U.calling g mk a) (Vm.Alike.refl U.vm) n4, va_Nw.same rfl rfl n5, va_Nw.same rfl rfl n6, va_Nw.same rfl rfl n7⟩, va_Z.moved (u := U) (U := U.calling g mk a) (Vm.Alike.refl U.vm) z1, va_T.moved (u := U) (U := U.calling g mk a) (Vm.Alike.refl U.vm) z2⟩
theorem KS.pass {E : Ev} {s U : State} {H : Heap} {locs : List Loc} (h : KS E s) (hS : va_S (eA E) s.heap H locs) (hU : U.heap = H) (hW : s.WarmedH U.vm) : KS E U := by
  obtain ⟨h1, h2, ⟨n1, n2, n3, n4, n5, n6, n7⟩, z1, z2⟩ := h
  subst hU
  exact ⟨va_K.moved hW.alike h1, fun q hq => h2 q (Nat.le_trans hS.1 hq), ⟨va_Nw.warmM hW n1, va_Nw.warmM hW n2, va_Nw.warmC hW n3, va_AO.moved hW.alike n4, va_Nw.warmM hW n5, va_Nw.warmM hW n6, va_Nw.warmM hW n7⟩, va_Z.kept (va_Z.moved hW.alike z1) hS.2.1, va_T.kept (va_T.moved hW.alike z2) hS.2.1⟩
theorem WD.blind {E : Ev} {v : Mem} {av : List Value} : FrameBlind (va_Pc av (WD E v)) := fun a U g mk q => ⟨q.1, q.2.1, q.2.2.blind⟩
abbrev FX (p : Program) (m : MethodId) (c : Code) (cc : ByteArray) (nL : Nat) (s : State) (args : Array Value) (Ts : List Cond) (own : String) (E : Ev) : Prop := CallFix p m c cc nL s args Ts own ∧ KS E s
abbrev Zi (below : List Frame) (E : Ev) (args : Array Value) (s : State) (r : Int32) (v' : Mem) : State → Prop := MQ below (va_Qi (fun r' u => r' = r ∧ u = v') (fun u t => HP E u t.heap) (eA E)) args s 0 0 (eA E)
abbrev Zv (below : List Frame) (E : Ev) (args : Array Value) (s : State) (v' : Mem) : State → Prop := MQ below (va_Qv (fun u => u = v') (fun u t => HP E u t.heap) (eA E)) args s 0 0 (eA E)
abbrev Zr (below : List Frame) (E : Ev) (args : Array Value) (s : State) (a : Nat) (v' : Mem) : State → Prop := MQ below (va_Qr (fun u => u = v') (fun u b t => b = a ∧ HP E u t.heap) (eA E)) args s 0 0 (eA E)
/-- contracts: with these arguments, from memory v: the answer r (an int), the memory v' -/
def Ci (l : Launch) (y : MethodName) (ws : List Cond) (rm : Room) (E : Ev) (av : List Value) (v : Mem) (r : Int32) (v' : Mem) : Prop := Met l y ws rm (va_Pc av (WD E v)) (va_Qi (fun r' u => r' = r ∧ u = v') (fun u t => HP E u t.heap) (eA E)) 0 0 (eA E)
def Cv (l : Launch) (y : MethodName) (ws : List Cond) (rm : Room) (E : Ev) (av : List Value) (v : Mem) (v' : Mem) : Prop := Met l y ws rm (va_Pc av (WD E v)) (va_Qv (fun u => u = v') (fun u t => HP E u t.heap) (eA E)) 0 0 (eA E)
def Cr (l : Launch) (y : MethodName) (ws : List Cond) (rm : Room) (E : Ev) (av : List Value) (v : Mem) (a : Nat) (v' : Mem) : Prop := Met l y ws rm (va_Pc av (WD E v)) (va_Qr (fun u => u = v') (fun u b t => b = a ∧ HP E u t.heap) (eA E)) 0 0 (eA E)
theorem Ci.of {l : Launch} {y : MethodName} {ws ws' : List Cond} {rm : Room} {E : Ev} {av : List Value} {v v' : Mem} {r : Int32} {cc : ByteArray} {maxL : Nat} {ret : Option FieldType} {own : String} (hy : plainName y.cls = true) (hw : ws = Cond.code y cc maxL ret :: ws') (ho : y.cls = own) (hml : (lg_sl av).length ≤ maxL)
    (body : ∀ (p : Program) (e : Env) (s : State) (m : MethodId) (below : List Frame) (meth : Method) (c : Code), FX p m c cc maxL s av.toArray ws own E → meth.sig.returnType = ret → meth.locks = false → ∀ ls, lv_has ls maxL (lv_args 0 av) → HS E s.heap v s.heap [] → W p l e rm s m av.toArray below meth c s.heap [] 0 0 (Zi below E av.toArray s r v') (F0 m 0 ls [])) : Ci l y ws rm E av v r v' := by
  refine Met.ofW (cc := cc) (maxL := maxL) (ret := ret) hy hw ?_
  intro p e s m args below meth c s₁ B hml' hv
  obtain ⟨rfl, hP, hK⟩ := hv
  have hts := atoms_spec (ws := ws) B.pre
  have hown : s.vm.findClass y.cls = some m.cls := findClass_of_methodNamed B.named
  rw [ho] at hown
  have hl := lv_entry av (n := maxL) hml
  rw [lg_entry_eq]
  exact body p e s m below meth c ⟨⟨B.exec, B.bytes, hml', hown, hts⟩, hK⟩ B.returns B.notSynchronized _ hl ⟨hP, va_S.rf⟩
theorem Cv.of {l : Launch} {y : MethodName} {ws ws' : List Cond} {rm : Room} {E : Ev} {av : List Value} {v v' : Mem} {cc : ByteArray} {maxL : Nat} {ret : Option FieldType} {own : String} (hy : plainName y.cls = true) (hw : ws = Cond.code y cc maxL ret :: ws') (ho : y.cls = own) (hml : (lg_sl av).length ≤ maxL)
    (body : ∀ (p : Program) (e : Env) (s : State) (m : MethodId) (below : List Frame) (meth : Method) (c : Code), FX p m c cc maxL s av.toArray ws own E → meth.sig.returnType = ret → meth.locks = false → ∀ ls, lv_has ls maxL (lv_args 0 av) → HS E s.heap v s.heap [] → W p l e rm s m av.toArray below meth c s.heap [] 0 0 (Zv below E av.toArray s v') (F0 m 0 ls [])) : Cv l y ws rm E av v v' := by
  refine Met.ofW (cc := cc) (maxL := maxL) (ret := ret) hy hw ?_
  intro p e s m args below meth c s₁ B hml' hv
  obtain ⟨rfl, hP, hK⟩ := hv
  have hts := atoms_spec (ws := ws) B.pre
  have hown : s.vm.findClass y.cls = some m.cls := findClass_of_methodNamed B.named
  rw [ho] at hown
  have hl := lv_entry av (n := maxL) hml
  rw [lg_entry_eq]
  exact body p e s m below meth c ⟨⟨B.exec, B.bytes, hml', hown, hts⟩, hK⟩ B.returns B.notSynchronized _ hl ⟨hP, va_S.rf⟩
theorem Cr.of {l : Launch} {y : MethodName} {ws ws' : List Cond} {rm : Room} {E : Ev} {av : List Value} {v v' : Mem} {a : Nat} {cc : ByteArray} {maxL : Nat} {ret : Option FieldType} {own : String} (hy : plainName y.cls = true) (hw : ws = Cond.code y cc maxL ret :: ws') (ho : y.cls = own) (hml : (lg_sl av).length ≤ maxL)
    (body : ∀ (p : Program) (e : Env) (s : State) (m : MethodId) (below : List Frame) (meth : Method) (c : Code), FX p m c cc maxL s av.toArray ws own E → meth.sig.returnType = ret → meth.locks = false → ∀ ls, lv_has ls maxL (lv_args 0 av) → HS E s.heap v s.heap [] → W p l e rm s m av.toArray below meth c s.heap [] 0 0 (Zr below E av.toArray s a v') (F0 m 0 ls [])) : Cr l y ws rm E av v a v' := by
  refine Met.ofW (cc := cc) (maxL := maxL) (ret := ret) hy hw ?_
  intro p e s m args below meth c s₁ B hml' hv
  obtain ⟨rfl, hP, hK⟩ := hv
  have hts := atoms_spec (ws := ws) B.pre
  have hown : s.vm.findClass y.cls = some m.cls := findClass_of_methodNamed B.named
  rw [ho] at hown
  have hl := lv_entry av (n := maxL) hml
  rw [lg_entry_eq]
  exact body p e s m below meth c ⟨⟨B.exec, B.bytes, hml', hown, hts⟩, hK⟩ B.returns B.notSynchronized _ hl ⟨hP, va_S.rf⟩
section MK
variable {p : Program} {l : Launch} {e : Env} {R : Room} {s : State} {m : MethodId} {args : Array Value} {below : List Frame} {meth : Method} {c : Code} {H : Heap} {locs : List Loc} {cells slots : Nat} {Q : State → Prop}
variable {cc : ByteArray} {pc nL : Nat} {ls : Array Slot} {rest st0 : List Value} {E : Ev} {v v' : Mem} {Ts : List Cond} {own : String}
theorem g_iret (F : FX p m c cc nL s args Ts own E) (hr : meth.sig.returnType = some .int) (hlk : meth.locks = false) (hH : HS E s.heap v H locs) {r r' : Int32} (h1 : r = r') (h2 : v = v') (hdg : decode cc pc = .ok (.ireturn, 1)) : W p l e R s m args below meth c H locs 0 0 (Zi below E args s r' v') (F0 m pc ls [.int r]) :=
  W.iret F.1.1 F.1.2.1 hr (fun t ht hW => ⟨⟨r, v, rfl, ⟨h1, h2⟩, show HP E v t.heap by rw [ht]; exact hH.1⟩, hH.2.F ht⟩) hH.2.2.2 hdg hlk
theorem g_zret (F : FX p m c cc nL s args Ts own E) (hr : meth.sig.returnType = some .boolean) (hlk : meth.locks = false) (hH : HS E s.heap v H locs) {r r' : Int32} (hn : narrow .boolean (.int r) = .int r) (h1 : r = r') (h2 : v = v') (hdg : decode cc pc = .ok (.ireturn, 1)) : W p l e R s m args below meth c H locs 0 0 (Zi below E args s r' v') (F0 m pc ls [.int r]) :=
  W.zret F.1.1 F.1.2.1 hr hn (fun t ht hW => ⟨⟨r, v, rfl, ⟨h1, h2⟩, show HP E v t.heap by rw [ht]; exact hH.1⟩, hH.2.F ht⟩) hH.2.2.2 hdg hlk
theorem g_vret (F : FX p m c cc nL s args Ts own E) (hr : meth.sig.returnType = none) (hlk : meth.locks = false) (hH : HS E s.heap v H locs) (h2 : v = v') (hdg : decode cc pc = .ok (.return_, 1)) : W p l e R s m args below meth c H locs 0 0 (Zv below E args s v') (F0 m pc ls []) :=
  W.vret F.1.1 F.1.2.1 hr (fun t ht hW => ⟨⟨v, rfl, h2, show HP E v t.heap by rw [ht]; exact hH.1⟩, hH.2.F ht⟩) hH.2.2.2 hdg hlk
theorem g_aret (F : FX p m c cc nL s args Ts own E) {rt : FieldType} (hr : meth.sig.returnType = some rt) (hrt : (∃ n, rt = .object n) ∨ ∃ t, rt = .array t) (hlk : meth.locks = false) (hH : HS E s.heap v H locs) {a a' : Nat} (h1 : a = a') (h2 : v = v') (hdg : decode cc pc = .ok (.areturn, 1)) : W p l e R s m args below meth c H locs 0 0 (Zr below E args s a' v') (F0 m pc ls [.ref a]) :=
  W.aret F.1.1 F.1.2.1 hr hrt (Or.inr ⟨a, rfl⟩) (fun t ht hW => ⟨⟨v, a, rfl, h2, h1, show HP E v t.heap by rw [ht]; exact hH.1⟩, hH.2.F ht⟩) hH.2.2.2 hdg hlk
theorem g_get (F : FX p m c cc nL s args Ts own E) (hH : HS E s.heap v H locs) {C ref : String} {T : u_T} {N ci index k : Nat} (hin : ∀ w ∈ u_ws C T N, w ∈ Ts) (hk : k ∈ eK E) {fs : List Value} (he : celq E (v k) k = .inr (ci, fs)) (hc : vwCl[ci]? = some (C, T, N)) (j : Nat) (hj : j < N) (hlink : (Cond.fieldLink own index ref (T j).2.1 (T j).2.2.1).before args s = true) (hsame : ∀ x, s.fieldFound? (T j).1 (T j).2.1 (T j).2.2.1 = some x → s.fieldFound? ref (T j).2.1 (T j).2.2.1 = some x) {x : Value} (hx : fs[j]? = some x) (hdg : decode cc pc = .ok (.getfield index, 3))
    (kk : W p l e R s m args below meth c H locs cells slots Q (F0 m (pc + 3) ls (x :: rest))) : W p l e R s m args below meth c H locs cells slots Q (F0 m pc ls (.ref (eAd E k) :: rest)) := by
  obtain ⟨q, hq⟩ := kw_get (f := cel E v) (ad := eAd E) hk
  exact va_get F.1.1 F.1.2.1 F.1.2.2.2.2 hin F.1.2.2.2.1 F.2.1 hH.1.1 q (hq.trans (by rw [show cel E v k = _ from he])) hc j hj hlink hsame hx hdg kk
theorem g_put (F : FX p m c cc nL s args Ts own E) (hH : HS E s.heap v H locs) {C ref : String} {T : u_T} {N ci index k : Nat} (hin : ∀ w ∈ u_ws C T N, w ∈ Ts) (ty0 : Nat → FieldType) (hty : ∀ k, k < N → parseFieldDescriptor (T k).2.2.1 = some (ty0 k)) (hnm : ∀ a, a < N → ∀ b, b < N → a ≠ b → (T a).2.1 ≠ (T b).2.1) (hk : k ∈ eK E) {fs : List Value} (he : celq E (v k) k = .inr (ci, fs)) (hc : vwCl[ci]? = some (C, T, N)) (j : Nat) (hj : j < N) (hlink : (Cond.fieldLink own index ref (T j).2.1 (T j).2.2.1).before args s = true) (hsame : ∀ x, s.fieldFound? (T j).1 (T j).2.1 (T j).2.2.1 = some x → s.fieldFound? ref (T j).2.1 (T j).2.2.1 = some x) (hfin : (T j).2.2.2 = false) {ty : FieldType} {x : Int32} (hd : parseFieldDescriptor (T j).2.2.1 = some ty) (hn : narrow ty (.int x) = .int x) (hfit : fits ty (.int x) = true) (hl : j < fs.length) (hup : celq E (upd (v k) j x) k = .inr (ci, fs.set j (.int x))) (hdg : decode cc pc = .ok (.putfield index, 3))
    (kk : ∀ (H1 : Heap) (locs1 : List Loc), HS E s.heap (st v k j x) H1 locs1 → W p l e R s m args below meth c H1 locs1 cells slots Q (F0 m (pc + 3) ls rest)) : W p l e R s m args below meth c H locs cells slots Q (F0 m pc ls (.int x :: .ref (eAd E k) :: rest)) := by
  obtain ⟨q, hq⟩ := kw_get (f := cel E v) (ad := eAd E) hk
  refine va_put F.1.1 F.1.2.1 F.1.2.2.2.2 hin ty0 hty hnm F.1.2.2.2.1 F.2.1 hH.1.1 hH.1.2 hH.2 q (hq.trans (by rw [show cel E v k = _ from he])) hc j hj hlink hsame hfin hd hn hfit hl hdg (fun H1 locs1 hP hD hS => kk H1 locs1 ⟨⟨?_, ?_⟩, hS⟩)
  · rw [kw_set hH.1.2 hk hq, ← hup, ← cel_up] at hP
    exact hP
  · rw [kw_set hH.1.2 hk hq, ← hup, ← cel_up] at hD
    exact hD
theorem g_iald (F : FX p m c cc nL s args Ts own E) (hH : HS E s.heap v H locs) {k n : Nat} {f : Nat → Int32} (hk : k ∈ eK E) (he : celq E (v k) k = .inl (eI E, n, .inl f)) {i x : Int32} (j : Nat) (hi : i = nI j) (hj : j < n) (hn : n < 2 ^ 31) (hx : f j = x) (hdg : decode cc pc = .ok (.iaload, 1))
    (kk : W p l e R s m args below meth c H locs cells slots Q (F0 m (pc + 1) ls (.int x :: rest))) : W p l e R s m args below meth c H locs cells slots Q (F0 m pc ls (.int i :: .ref (eAd E k) :: rest)) := by
  obtain ⟨q, hq⟩ := kw_get (f := cel E v) (ad := eAd E) hk
  subst hi
  refine va_iald F.1.1 F.1.2.1 F.2.1 hH.1.1 q 0 (hq.trans (by rw [show cel E v k = _ from he])) rfl (vp_in_nI hj hn) hdg ?_
  rw [nI_clamp (by omega), hx]
  exact kk
theorem g_iast (F : FX p m c cc nL s args Ts own E) (hH : HS E s.heap v H locs) {k n : Nat} (hk : k ∈ eK E) (he : ∀ g, celq E g k = .inl (eI E, n, .inl g)) {i x : Int32} (j : Nat) (hi : i = nI j) (hj : j < n) (hn : n < 2 ^ 31) (hdg : decode cc pc = .ok (.iastore, 1))
    (kk : ∀ (H1 : Heap) (locs1 : List Loc), HS E s.heap (st v k j x) H1 locs1 → W p l e R s m args below meth c H1 locs1 cells slots Q (F0 m (pc + 1) ls rest)) : W p l e R s m args below meth c H locs cells slots Q (F0 m pc ls (.int x :: .int i :: .ref (eAd E k) :: rest)) := by
  obtain ⟨q, hq⟩ := kw_get (f := cel E v) (ad := eAd E) hk
  subst hi
  refine va_iast F.1.1 F.1.2.1 F.2.1 hH.1.1 hH.1.2 hH.2 q 0 (hq.trans (by rw [show cel E v k = _ from he (v k)])) rfl (vp_in_nI hj hn) hdg (fun H1 locs1 hP hD hS => kk H1 locs1 ⟨⟨?_, ?_⟩, hS⟩)
  · rw [nI_clamp (by omega), kw_set hH.1.2 hk hq, ← he (upd (v k) j x), ← cel_up] at hP
    exact hP
  · rw [nI_clamp (by omega), kw_set hH.1.2 hk hq, ← he (upd (v k) j x), ← cel_up] at hD
    exact hD
theorem g_alen (F : FX p m c cc nL s args Ts own E) (hH : HS E s.heap v H locs) {k n : Nat} (hk : k ∈ eK E) (he : celq E (v k) k = .inl (eI E, n, .inl (v k))) (hdg : decode cc pc = .ok (.arraylength, 1))
    (kk : W p l e R s m args below meth c H locs cells slots Q (F0 m (pc + 1) ls (.int (nI n) :: rest))) : W p l e R s m args below meth c H locs cells slots Q (F0 m pc ls (.ref (eAd E k) :: rest)) := by
  obtain ⟨q, hq⟩ := kw_get (f := cel E v) (ad := eAd E) hk
  exact va_alen (x := (n, .inl (v k))) (v := nI n) F.1.1 F.1.2.1 F.2.1 hH.1.1 q 0 (hq.trans (by rw [show cel E v k = _ from he])) rfl rfl hdg kk
theorem g_aald (F : FX p m c cc nL s args Ts own E) (hH : HS E s.heap v H locs) {k n : Nat} {f : Nat → Option Nat} (hk : k ∈ eK E) (he : celq E (v k) k = .inl (eO E, n, .inr (.inr (.inr (.inr f))))) {i : Int32} (j : Nat) (hi : i = nI j) (hj : j < n) (hn : n < 2 ^ 31) {a : Nat} (ha : f j = some a) (hdg : decode cc pc = .ok (.aaload, 1))
    (kk : W p l e R s m args below meth c H locs cells slots Q (F0 m (pc + 1) ls (.ref a :: rest))) : W p l e R s m args below meth c H locs cells slots Q (F0 m pc ls (.int i :: .ref (eAd E k) :: rest)) := by
  obtain ⟨q, hq⟩ := kw_get (f := cel E v) (ad := eAd E) hk
  subst hi
  refine va_aldq F.1.1 F.1.2.1 F.2.1 hH.1.1 q 1 (hq.trans (by rw [show cel E v k = _ from he])) rfl (vp_in_nI hj hn) hdg ?_
  rw [nI_clamp (by omega), ha]
  exact kk
theorem g_cast (F : FX p m c cc nL s args Ts own E) (hH : HS E s.heap v H locs) {nm : String} {T : u_T} {N ci index k : Nat} {fs : List Value} (hk : k ∈ eK E) (he : celq E (v k) k = .inr (ci, fs)) (hc : vwCl[ci]? = some (nm, T, N)) (hlink : (Cond.classLink own index nm).before args s = true) (hdg : decode cc pc = .ok (.checkcast index, 3))
    (kk : W p l e R s m args below meth c H locs cells slots Q (F0 m (pc + 3) ls (.ref (eAd E k) :: rest))) : W p l e R s m args below meth c H locs cells slots Q (F0 m pc ls (.ref (eAd E k) :: rest)) := by
  obtain ⟨q, hq⟩ := kw_get (f := cel E v) (ad := eAd E) hk
  exact va_castS F.1.1 F.1.2.1 F.1.2.2.2.1 hlink (F.2.1.1 ci _ hc).2 (va_recv F.2.1 hH.1.1 hc (hq.trans (by rw [show cel E v k = _ from he]))) hdg kk
theorem g_copy (F : FX p m c cc nL s args Ts own E) (hH : HS E s.heap v H locs) (hml : c.maxLocals = ls.size) {index k k2 n n2 : Nat} {f : Nat → Int32} (hk : k ∈ eK E) (he : ∀ g, celq E g k = .inl (eI E, n, .inl g)) (hk2 : k2 ∈ eK E) (he2 : celq E (v k2) k2 = .inl (eI E, n2, .inl f)) (hlink : (Cond.methodLink own index arraycopyName).before args s = true) (hnat : (Cond.native arraycopyName).before args s = true) (hstat : (Cond.static arraycopyName).before args s = true) (hini : (Cond.initialized "java/lang/System").before args s = true) {i : Int32} (j : Nat) (hi : i = nI j) (hj : j ≤ n) (hj2 : j ≤ n2) (hn : n < 2 ^ 31) (hframes : 1 ≤ R.frames) (hlocals : (rest.map fun v => v.category).sum + (nativeFrameWords "java/lang/System" "arraycopy" 5 + 11) ≤ R.locals) (hdg : decode cc pc = .ok (.invokestatic index, 3))
    (kk : ∀ (H1 : Heap) (locs1 : List Loc), HS E s.heap (va_up v k (va_cpy f (v k) 0 0 j)) H1 locs1 → W p l e R s m args below meth c H1 locs1 cells slots Q (F0 m (pc + 3) ls rest)) : W p l e R s m args below meth c H locs cells slots Q (F0 m pc ls (.int i :: .int 0 :: .ref (eAd E k) :: .int 0 :: .ref (eAd E k2) :: rest)) := by
  obtain ⟨q, hq⟩ := kw_get (f := cel E v) (ad := eAd E) hk
  obtain ⟨q2, hq2⟩ := kw_get (f := cel E v) (ad := eAd E) hk2
  subst hi
  have h0 : (0 : Int32).toNatClampNeg = 0 := by decide
  have hj3 : (nI j).toNatClampNeg = j := nI_clamp (by omega)
  refine va_copyi (ty := .int) F.1.1 F.1.2.1 hml F.1.2.2.2.1 hlink hnat hstat hini F.2.1 hH.1.1 hH.1.2 hH.2 q2 q 0 0 (hq2.trans (by rw [show cel E v k2 = _ from he2])) (hq.trans (by rw [show cel E v k = _ from he (v k)])) rfl rfl rfl (by decide) (by decide) (nI_pos (by omega)) (by rw [h0, hj3]; omega) (by rw [h0, hj3]; omega) (fun _ _ => rfl) hframes hlocals hdg (fun H1 locs1 hP hD hS => kk H1 locs1 ⟨⟨?_, ?_⟩, hS⟩)
  · rw [h0, hj3, kw_set hH.1.2 hk hq, ← he (va_cpy f (v k) 0 0 j), ← cel_up] at hP
    exact hP
  · rw [h0, hj3, kw_set hH.1.2 hk hq, ← he (va_cpy f (v k) 0 0 j), ← cel_up] at hD
    exact hD
theorem g_vi (F : FX p m c cc nL s args Ts own E) (hH : HS E s.heap v H locs) {y : MethodName} {ws' : List Cond} {rm' : Room} {As : List Value} {r : Int32} {bytes : ByteArray} {maxL n index N ci k : Nat} {ret : Option FieldType} {C : String} {T : u_T} {fs : List Value} (hM : Ci l y ws' rm' E (.ref (eAd E k) :: As) v r v') (cw : CallW R s args own C index y bytes maxL ret ws' rm' 0 0 n) (hk : k ∈ eK E) (he : celq E (v k) k = .inr (ci, fs)) (hc : vwCl[ci]? = some (C, T, N)) (hn : As.length = n) (hls : ls.size = nL) (rest : List Value) (hst : st0 = As.reverse ++ .ref (eAd E k) :: rest) (hW : (rest.map fun v => v.category).sum ≤ 8) (hdg : decode cc pc = .ok (.invokevirtual index, 3)) (hf : cells + 0 ≤ R.cells ∧ slots + 0 ≤ R.slots)
    (kk : ∀ (H1 : Heap) (locs1 : List Loc), HS E s.heap v' H1 locs1 → W p l e R s m args below meth c H1 locs1 cells slots Q (F0 m (pc + 3) ls (.int r :: rest))) : W p l e R s m args below meth c H locs cells slots Q (F0 m pc ls st0) := by
  obtain ⟨q, hq⟩ := kw_get (f := cel E v) (ad := eAd E) hk
  refine va_calli (va_runV (As := As) (rest := rest) F.1 hM cw ⟨WD.blind, va_recv F.2.1 hH.1.1 hc (hq.trans (by rw [show cel E v k = _ from he])), fun U hU hWm => ⟨rfl, by rw [hU]; exact hH.1, F.2.pass hH.2 hU hWm⟩⟩ rfl hn hls hst (lv_room hW) hdg hf) hH.2 (fun q _ h => h) (fun q h => h) (fun r' u t H1 locs1 ht hvm hw hB hz hk1 hS => ?_)
  obtain ⟨rfl, rfl⟩ := hw
  exact kk H1 locs1 ⟨by rw [← ht]; exact hB, hS⟩
theorem g_vv (F : FX p m c cc nL s args Ts own E) (hH : HS E s.heap v H locs) {y : MethodName} {ws' : List Cond} {rm' : Room} {As : List Value} {bytes : ByteArray} {maxL n index N ci k : Nat} {ret : Option FieldType} {C : String} {T : u_T} {fs : List Value} (hM : Cv l y ws' rm' E (.ref (eAd E k) :: As) v v') (cw : CallW R s args own C index y bytes maxL ret ws' rm' 0 0 n) (hk : k ∈ eK E) (he : celq E (v k) k = .inr (ci, fs)) (hc : vwCl[ci]? = some (C, T, N)) (hn : As.length = n) (hls : ls.size = nL) (rest : List Value) (hst : st0 = As.reverse ++ .ref (eAd E k) :: rest) (hW : (rest.map fun v => v.category).sum ≤ 8) (hdg : decode cc pc = .ok (.invokevirtual index, 3)) (hf : cells + 0 ≤ R.cells ∧ slots + 0 ≤ R.slots)
    (kk : ∀ (H1 : Heap) (locs1 : List Loc), HS E s.heap v' H1 locs1 → W p l e R s m args below meth c H1 locs1 cells slots Q (F0 m (pc + 3) ls rest)) : W p l e R s m args below meth c H locs cells slots Q (F0 m pc ls st0) := by
  obtain ⟨q, hq⟩ := kw_get (f := cel E v) (ad := eAd E) hk
  refine va_callv (va_runV (As := As) (rest := rest) F.1 hM cw ⟨WD.blind, va_recv F.2.1 hH.1.1 hc (hq.trans (by rw [show cel E v k = _ from he])), fun U hU hWm => ⟨rfl, by rw [hU]; exact hH.1, F.2.pass hH.2 hU hWm⟩⟩ rfl hn hls hst (lv_room hW) hdg hf) hH.2 (fun q _ h => h) (fun q h => h) (fun u t H1 locs1 ht hvm hw hB hz hk1 hS => ?_)
  subst hw
  exact kk H1 locs1 ⟨by rw [← ht]; exact hB, hS⟩
theorem g_vr (F : FX p m c cc nL s args Ts own E) (hH : HS E s.heap v H locs) {y : MethodName} {ws' : List Cond} {rm' : Room} {As : List Value} {a : Nat} {bytes : ByteArray} {maxL n index N ci k : Nat} {ret : Option FieldType} {C : String} {T : u_T} {fs : List Value} (hM : Cr l y ws' rm' E (.ref (eAd E k) :: As) v a v') (cw : CallW R s args own C index y bytes maxL ret ws' rm' 0 0 n) (hk : k ∈ eK E) (he : celq E (v k) k = .inr (ci, fs)) (hc : vwCl[ci]? = some (C, T, N)) (hn : As.length = n) (hls : ls.size = nL) (rest : List Value) (hst : st0 = As.reverse ++ .ref (eAd E k) :: rest) (hW : (rest.map fun v => v.category).sum ≤ 8) (hdg : decode cc pc = .ok (.invokevirtual index, 3)) (hf : cells + 0 ≤ R.cells ∧ slots + 0 ≤ R.slots)
    (kk : ∀ (H1 : Heap) (locs1 : List Loc), HS E s.heap v' H1 locs1 → W p l e R s m args below meth c H1 locs1 cells slots Q (F0 m (pc + 3) ls (.ref a :: rest))) : W p l e R s m args below meth c H locs cells slots Q (F0 m pc ls st0) := by
  obtain ⟨q, hq⟩ := kw_get (f := cel E v) (ad := eAd E) hk
  refine va_callr (va_runV (As := As) (rest := rest) F.1 hM cw ⟨WD.blind, va_recv F.2.1 hH.1.1 hc (hq.trans (by rw [show cel E v k = _ from he])), fun U hU hWm => ⟨rfl, by rw [hU]; exact hH.1, F.2.pass hH.2 hU hWm⟩⟩ rfl hn hls hst (lv_room hW) hdg hf) hH.2 (fun q _ h => h) (fun q h => h) (fun u a' t H1 locs1 ht hvm hw hB hz hk1 hS => ?_)
  subst hw
  obtain ⟨rfl, hB⟩ := hB
  exact kk H1 locs1 ⟨by rw [← ht]; exact hB, hS⟩
theorem g_si (F : FX p m c cc nL s args Ts own E) (hH : HS E s.heap v H locs) {y : MethodName} {ws' : List Cond} {rm' : Room} {As : List Value} {r : Int32} {bytes : ByteArray} {maxL n index : Nat} {ret : Option FieldType} (hM : Ci l y ws' rm' E As v r v') (cw : CallB R s args own index y bytes maxL ret ws' rm' 0 0 n ∧ (Cond.static y).before args s = true) (hn : As.length = n) (hls : ls.size = nL) (rest : List Value) (hst : st0 = As.reverse ++ rest) (hW : (rest.map fun v => v.category).sum ≤ 8) (hdg : decode cc pc = .ok (.invokestatic index, 3)) (hf : cells + 0 ≤ R.cells ∧ slots + 0 ≤ R.slots)
    (kk : ∀ (H1 : Heap) (locs1 : List Loc), HS E s.heap v' H1 locs1 → W p l e R s m args below meth c H1 locs1 cells slots Q (F0 m (pc + 3) ls (.int r :: rest))) : W p l e R s m args below meth c H locs cells slots Q (F0 m pc ls st0) := by
  refine va_calli (va_runS (As := As) (rest := rest) F.1 hM cw ⟨WD.blind, fun U hU hWm => ⟨rfl, by rw [hU]; exact hH.1, F.2.pass hH.2 hU hWm⟩⟩ rfl hn hls hst (lv_room hW) hdg hf) hH.2 (fun q _ h => h) (fun q h => h) (fun r' u t H1 locs1 ht hvm hw hB hz hk1 hS => ?_)
  obtain ⟨rfl, rfl⟩ := hw
  exact kk H1 locs1 ⟨by rw [← ht]; exact hB, hS⟩
theorem g_sv (F : FX p m c cc nL s args Ts own E) (hH : HS E s.heap v H locs) {y : MethodName} {ws' : List Cond} {rm' : Room} {As : List Value} {bytes : ByteArray} {maxL n index : Nat} {ret : Option FieldType} (hM : Cv l y ws' rm' E As v v') (cw : CallB R s args own index y bytes maxL ret ws' rm' 0 0 n ∧ (Cond.static y).before args s = true) (hn : As.length = n) (hls : ls.size = nL) (rest : List Value) (hst : st0 = As.reverse ++ rest) (hW : (rest.map fun v => v.category).sum ≤ 8) (hdg : decode cc pc = .ok (.invokestatic index, 3)) (hf : cells + 0 ≤ R.cells ∧ slots + 0 ≤ R.slots)
    (kk : ∀ (H1 : Heap) (locs1 : List Loc), HS E s.heap v' H1 locs1 → W p l e R s m args below meth c H1 locs1 cells slots Q (F0 m (pc + 3) ls rest)) : W p l e R s m args below meth c H locs cells slots Q (F0 m pc ls st0) := by
  refine va_callv (va_runS (As := As) (rest := rest) F.1 hM cw ⟨WD.blind, fun U hU hWm => ⟨rfl, by rw [hU]; exact hH.1, F.2.pass hH.2 hU hWm⟩⟩ rfl hn hls hst (lv_room hW) hdg hf) hH.2 (fun q _ h => h) (fun q h => h) (fun u t H1 locs1 ht hvm hw hB hz hk1 hS => ?_)
  subst hw
  exact kk H1 locs1 ⟨by rw [← ht]; exact hB, hS⟩
theorem g_sni (F : FX p m c cc nL s args Ts own E) (hH : HS E s.heap v H locs) {y : MethodName} {host : String} {ws' : List Cond} {rm' : Room} {As : List Value} {r : Int32} {bytes : ByteArray} {maxL n index : Nat} {ret : Option FieldType} (hM : Ci l y ws' rm' E As v r v') (cw : va_CN R s args own index y host bytes maxL ret ws' rm' 0 0 n ∧ (Cond.static y).before args s = true ∧ True) (hn : As.length = n) (hls : ls.size = nL) (rest : List Value) (hst : st0 = As.reverse ++ rest) (hW : (rest.map fun v => v.category).sum ≤ 8) (hdg : decode cc pc = .ok (.invokestatic index, 3)) (hf : cells + 0 ≤ R.cells ∧ slots + 0 ≤ R.slots)
    (kk : ∀ (H1 : Heap) (locs1 : List Loc), HS E s.heap v' H1 locs1 → W p l e R s m args below meth c H1 locs1 cells slots Q (F0 m (pc + 3) ls (.int r :: rest))) : W p l e R s m args below meth c H locs cells slots Q (F0 m pc ls st0) := by
  refine va_calli (va_runSN (As := As) (rest := rest) F.1 hM cw ⟨WD.blind, fun U hU hWm => ⟨rfl, by rw [hU]; exact hH.1, F.2.pass hH.2 hU hWm⟩⟩ rfl hn hls hst (lv_room hW) hdg hf) hH.2 (fun q _ h => h) (fun q h => h) (fun r' u t H1 locs1 ht hvm hw hB hz hk1 hS => ?_)
  obtain ⟨rfl, rfl⟩ := hw
  exact kk H1 locs1 ⟨by rw [← ht]; exact hB, hS⟩
end MK

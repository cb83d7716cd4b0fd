/-! the start: both objects are made -/
def v0 : Mem := fun k => if k = 1 then (fun j => if j = 0 then 100 else if j = 1 then 200 else if j = 2 then 50 else if j = 3 then 200 else if j = 4 then 120 else 0) else if k = 15 then (fun j => if j = 5 then 100 else if j = 6 then 200 else if j = 7 then 50 else if j = 8 then 200 else if j = 9 then 120 else 0) else fun _ => 0
def k0 : List Nat := [0, 1, 2, 3, 4, 5, 8, 6, 9, 7, 10, 11, 15, 16, 17, 18, 19, 20, 21, 22, 23, 24, 25, 26]
theorem inv_0 {E : Ev} (hK : eK E = k0) (hnb : ∀ i, eNb E i = 0) (hln : ∀ j, eLn E j = 3) : INV E 0 v0 := by
  have m1 : ∀ k, k < 12 → k ∈ k0 := by decide
  have m2 : ∀ k, k < 12 → 15 + k ∈ k0 := by decide
  have m3 : ∀ k ∈ k0, k < 12 ∨ (15 ≤ k ∧ k ≤ 26) := by decide
  have none : ∀ i j, ¬ j < eNb E i := fun i j h => by rw [hnb i] at h; omega
  refine ⟨⟨fun k hk => by rw [hK]; exact m1 k hk, fun k h1 h2 => ?_, fun i _ h => absurd (hnb i) h, fun i j _ h => absurd h (none i j), fun i _ => by rw [hnb i]; omega, fun j _ => by rw [hln j]; omega, by rw [hnb 3]; omega⟩, fun k hk => ?_, ⟨by rw [hnb 0, hnb 3], by rw [hnb 1, hnb 3], by rw [hnb 2, hnb 3], by rw [hnb 4, hnb 3]⟩, by omega, ?_, ⟨rfl, rfl⟩, ?_⟩
  · rw [hK]
    have := m2 (k - 15) (by omega)
    rw [show 15 + (k - 15) = k by omega] at this
    exact this
  · rw [hK] at hk
    rcases m3 k hk with h | h
    · exact Or.inl h
    · exact Or.inr (Or.inl h)
  · exact ⟨fun b h => absurd h (none 3 b), fun b h => absurd h (none 3 b), fun b h => absurd h (none 3 b), ⟨rfl, rfl, rfl, rfl, rfl, rfl⟩, rfl, rfl, rfl, rfl, fun t h => absurd h (by omega)⟩
  · exact ⟨⟨⟨by decide, by decide⟩, ⟨by decide, by decide⟩, ⟨by decide, by decide⟩, ⟨by decide, by decide⟩, ⟨by decide, by decide⟩⟩, fun t h => absurd h (by omega), Or.inl rfl, fun b h => absurd h (none 0 b)⟩
theorem e_int {args : Array Value} {s : State} (h : (Cond.arrayClass .int).before args s = true) : ∃ cA, ArrOfT s cA .int ∧ va_RA s cA .int := by
  obtain ⟨cA, kA, comp, h1, h2, h3⟩ := Cond.arrayClass_spec h
  exact ⟨cA, fun n z => ⟨fun k h => (by cases h), kA, h2, comp, h3⟩, h1⟩
theorem e_obj {args : Array Value} {s : State} (h : (Cond.arrayOver (.object "java/lang/Object")).before args s = true) : ∃ cA, ArrOfT s cA (.object "java/lang/Object") ∧ va_RA s cA (.object "java/lang/Object") := by
  obtain ⟨comp, cA, kA, h1, h2, h3, h4, h5⟩ := Cond.arrayOver_spec h
  exact ⟨cA, fun n z => ⟨fun k h => (by cases h), kA, h3, comp, h4⟩, kA, comp, h3, h4, h1, h5⟩
theorem lrow_00 {E : Ev} (h : eNb E 4 = 0) : lrow E = fun _ => 0 := by
  funext j
  unfold lrow
  rw [h]
  exact if_neg (by omega)
/-- the world's classes at the entry -/
theorem ks_0 {p : Program} {s : State} {m : MethodId} {meth : Method} {c : Code} {b L : Nat} {xs : Nat → Int32} (C0 : lw_At p s m meth c b L xs) : ∃ (D : va_G) (z : Nat) (cI cO : ClassId), KS (D, (fun q => s.heap.size ≤ q), [], (fun _ => 0), (fun _ => 0), (fun _ => 3), z, cI, cO) s := by
  obtain ⟨hx, hb, hr, hml, hown, hts, hX, hbl, hlocks, hgv⟩ := id C0
  have hA : ∀ a : Nat, a < s.heap.size → ¬ (fun q : Nat => s.heap.size ≤ q) a := fun a h => Nat.not_le.mpr h
  obtain ⟨c0, i0, n0⟩ := u_known (C := RJx4a65c) (T := TJx4a65c) (N := 3) (n := 3) hts inJx4a65c (hts (.instantiable RJx4a65c 3) (by decide +kernel))
  obtain ⟨c1, i1, n1⟩ := u_known (C := RX0) (T := TX0) (N := 3) (n := 3) hts inX0 (hts (.instantiable RX0 3) (by decide +kernel))
  obtain ⟨c2, i2, n2⟩ := u_known (C := RX1) (T := TX1) (N := 3) (n := 3) hts inX1 (hts (.instantiable RX1 3) (by decide +kernel))
  obtain ⟨c3, i3, n3⟩ := u_known (C := RX2) (T := TX2) (N := 3) (n := 3) hts inX2 (hts (.instantiable RX2 3) (by decide +kernel))
  obtain ⟨c4, i4, n4⟩ := u_known (C := RX3) (T := TX3) (N := 6) (n := 6) hts inX3 (hts (.instantiable RX3 6) (by decide +kernel))
  obtain ⟨c5, i5, n5⟩ := u_known (C := RX4) (T := TX4) (N := 8) (n := 8) hts inX4 (hts (.instantiable RX4 8) (by decide +kernel))
  obtain ⟨c6, i6, n6⟩ := u_known (C := RX5) (T := TX5) (N := 24) (n := 24) hts inX5 (hts (.instantiable RX5 24) (by decide +kernel))
  obtain ⟨cI, a1, a2⟩ := e_int (hts (.arrayClass .int) (by decide +kernel))
  have hover := hts (.arrayOver (.object "java/lang/Object")) (by decide +kernel)
  obtain ⟨cO, b1, b2⟩ := e_obj hover
  have hs := flat_of_before _ hgv
  have harr : (Cond.arrayOf (.static "java/util/ArrayList" "DEFAULTCAPACITY_EMPTY_ELEMENTDATA" "[Ljava/lang/Object;") (.object "java/lang/Object")).before #[Value.ref b] s = true := hs _ (by decide +kernel)
  have hlen : (Cond.eq (.length (.static "java/util/ArrayList" "DEFAULTCAPACITY_EMPTY_ELEMENTDATA" "[Ljava/lang/Object;")) (.int 0)).before #[Value.ref b] s = true := hs _ (by decide +kernel)
  obtain ⟨z, hz, hT⟩ := va_Tof (N := 0) (f := fun _ => .null) (A := fun q => s.heap.size ≤ q) (by decide) harr (va_eqt hlen) (fun j hj => absurd hj (by omega)) hA
  have hZ := va_Zof (A := fun q => s.heap.size ≤ q) (hts (.laysStatic "java/util/ArrayList" "DEFAULTCAPACITY_EMPTY_ELEMENTDATA" "[Ljava/lang/Object;") (by decide +kernel)) (hts (.initialized "java/util/ArrayList") (by decide +kernel)) hz hA
  refine ⟨(fun k => if k = 0 then c0 else if k = 1 then c1 else if k = 2 then c2 else if k = 3 then c3 else if k = 4 then c4 else if k = 5 then c5 else c6, fun k => if k = 0 then i0 else if k = 1 then i1 else if k = 2 then i2 else if k = 3 then i3 else if k = 4 then i4 else if k = 5 then i5 else i6), z, cI, cO, ⟨?_, ?_⟩, fun q h => h, ⟨?_, ?_, ?_, ?_, ?_, ?_, ?_⟩, hZ, hT⟩
  · intro k q hq
    match k, hq with
    | 0, hq => cases hq; exact n0
    | 1, hq => cases hq; exact n1
    | 2, hq => cases hq; exact n2
    | 3, hq => cases hq; exact n3
    | 4, hq => cases hq; exact n4
    | 5, hq => cases hq; exact n5
    | 6, hq => cases hq; exact n6
    | k + 7, hq => simp at hq
  · intro k q hq
    match k, hq with
    | 0, hq => cases hq; exact ⟨a1, a2⟩
    | 1, hq => cases hq; exact ⟨b1, b2⟩
    | k + 2, hq => simp at hq
  · exact va_Nw.of rfl (hts (.methodLinkNest RX0 33 yX4_quotient "DryingKiln") (by decide +kernel))
  · exact va_Nw.of rfl (hts (.methodLinkNest RX1 69 yX4_quotient "DryingKiln") (by decide +kernel))
  · exact va_Nw.of rfl (hts (.castable RX0 "java/lang/Object") (by decide +kernel))
  · exact va_AO.of hover
  · exact va_Nw.of rfl (hts (.methodLinkNest RX4 9 yX3_init "DryingKiln") (by decide +kernel))
  · exact va_Nw.of rfl (hts (.methodLinkNest RX4 18 yX2_init "DryingKiln") (by decide +kernel))
  · exact va_Nw.of rfl (hts (.methodLinkNest RX4 25 yX1_init "DryingKiln") (by decide +kernel))

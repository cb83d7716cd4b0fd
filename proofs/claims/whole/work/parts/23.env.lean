/-! a load gets a board: the world's new names -/
def EX (E : Ev) : Prop := ∀ k ∈ eK E, k < 12 ∨ (15 ≤ k ∧ k ≤ 26) ∨ (∃ i, i < 3 ∧ eNb E i ≠ 0 ∧ k = 12 + i) ∨ (∃ i j, i < 3 ∧ j < eNb E i ∧ (k = bo i j ∨ k = ba i j))
def vB (v : Mem) (i n L : Nat) (x : Int32) : Mem := va_up (va_up (st v (8 + i) 0 (v (8 + i) 0 + 1)) (bo i n) (fun _ => -1000005)) (ba i n) (frow x (fun _ => 0) L)
/-- E' is E with board n of L layers in load i -/
def En1 (E E' : Ev) (i n L : Nat) : Prop := eD E' = eD E ∧ eA E' = eA E ∧ eZ E' = eZ E ∧ eI E' = eI E ∧ eO E' = eO E ∧ eNb E' = va_up (eNb E) i (n + 1) ∧ eLn E' = va_up (eLn E) n L ∧ (∀ m, m ≠ bo i n → m ≠ ba i n → m ≠ 12 + i → eAd E' m = eAd E m)
theorem KS.same {E E' : Ev} {s : State} (h : KS E s) (h1 : eD E' = eD E) (h2 : eA E' = eA E) (h3 : eZ E' = eZ E) (h4 : eI E' = eI E) (h5 : eO E' = eO E) : KS E' s := by
  unfold KS ZW tysE at h ⊢
  rw [h1, h2, h3, h4, h5]
  exact h
theorem bo_inj {i j k l : Nat} (hj : j < 10) (hl : l < 10) (h : bo i j = bo k l) : i = k ∧ j = l := by
  unfold bo at h
  omega
theorem ba_inj {i j k l : Nat} (hj : j < 10) (hl : l < 10) (h : ba i j = ba k l) : i = k ∧ j = l := by
  unfold ba at h
  omega
theorem celq_same {E E' : Ev} {i n L : Nat} (hi : i < 3) (hn : n = eNb E i) (hn6 : n < 6) (hE : EO E) (hX : EX E) (h1 : En1 E E' i n L) (hL : ∀ i', i' < 3 → n < eNb E i' → eLn E n = L) (h4 : eNb E 4 ≤ n) (g : Nat → Int32) {k : Nat} (hk : k ∈ eK E) (k1 : k ≠ 8 + i) (k2 : k ≠ 12 + i) : celq E g k = celq E' g k := by
  obtain ⟨-, -, hZ, hI, hO, hnb, hln, had⟩ := h1
  have lo : ∀ m, m < 12 → eAd E' m = eAd E m := fun m hm => had m (Ne.symm (ne_bl (by omega))) (Ne.symm (ne_al (by omega))) (by omega)
  have lm : ∀ m, 15 ≤ m → m ≤ 26 → eAd E' m = eAd E m := fun m h1 h2 => had m (Ne.symm (ne_bl (by omega))) (Ne.symm (ne_al (by omega))) (by omega)
  have nb3 : eNb E' 3 = eNb E 3 := by rw [hnb]; exact up_ne _ _ (by omega)
  have nb4 : eNb E' 4 = eNb E 4 := by rw [hnb]; exact up_ne _ _ (by omega)
  rcases hX k hk with h | h | ⟨i', hi', hne, rfl⟩ | ⟨i', j, hi', hj, h⟩
  · by_cases a0 : k = 0
    · subst a0
      rw [cq_kiln, cq_kiln, lo 1 (by decide), lo 2 (by decide), lo 5 (by decide), lo 6 (by decide), lo 7 (by decide), lo 11 (by decide)]
    by_cases a1 : k = 1
    · subst a1; rw [cq_set, cq_set]
    by_cases a2 : k = 2
    · subst a2; rw [cq_sch, cq_sch, lo 3 (by decide), lo 4 (by decide)]
    by_cases a3 : k = 3
    · subst a3; rw [cq_th, cq_th, hI]
    by_cases a4 : k = 4
    · subst a4; rw [cq_in, cq_in, hI]
    by_cases a5 : k = 11
    · subst a5; rw [cq_pl, cq_pl, hI]
    by_cases a6 : k ≤ 7
    · obtain ⟨i', hi', rfl⟩ : ∃ i', i' < 3 ∧ k = 5 + i' := ⟨k - 5, by omega, by omega⟩
      rw [cq_ld E g hi', cq_ld E' g hi', lo (8 + i') (by omega)]
    · obtain ⟨i', hi', rfl⟩ : ∃ i', i' < 3 ∧ k = 8 + i' := ⟨k - 8, by omega, by omega⟩
      have hii : i' ≠ i := fun h => k1 (by rw [h])
      have nbi : eNb E' i' = eNb E i' := by rw [hnb]; exact up_ne _ _ hii
      rw [cq_li E g hi', cq_li E' g hi', nbi]
      unfold eEl
      rw [nbi, hZ, had (12 + i') (Ne.symm (ne_bl (by omega))) (Ne.symm (ne_al (by omega))) (by omega)]
  · by_cases a0 : k = 15
    · subst a0
      rw [cq_mo, cq_mo, nb3, lm 16 (by decide) (by decide), lm 17 (by decide) (by decide), lm 18 (by decide) (by decide), lm 19 (by decide) (by decide), lm 20 (by decide) (by decide), lm 21 (by decide) (by decide), lm 22 (by decide) (by decide), lm 23 (by decide) (by decide), lm 24 (by decide) (by decide), lm 25 (by decide) (by decide), lm 26 (by decide) (by decide)]
    by_cases a1 : k = 16
    · subst a1
      show (Sum.inl (eI E, 6, .inl (lrow E)) : va_E) = Sum.inl (eI E', 6, .inl (lrow E'))
      have e : lrow E' = lrow E := by
        funext j
        unfold lrow
        rw [nb4]
        by_cases hj : j < eNb E 4
        · rw [if_pos hj, if_pos hj, hln, up_ne _ _ (by omega)]
        · rw [if_neg hj, if_neg hj]
      rw [e, hI]
    · rw [cq_ma E g (by omega) h.2, cq_ma E' g (by omega) h.2, hI]
  · have hii : i' ≠ i := fun h => k2 (by rw [h])
    have nbi : eNb E' i' = eNb E i' := by rw [hnb]; exact up_ne _ _ hii
    have h6 := hE.2.2.2.2.1 i' (by omega)
    rw [cq_el E g hi', cq_el E' g hi', hO]
    have e : eRow E' i' = eRow E i' := by
      funext j
      unfold eRow
      rw [nbi]
      by_cases hj : j < eNb E i'
      · rw [if_pos hj, if_pos hj, had _ (fun h => hii (bo_inj (by omega) (by omega) h).1) (Ne.symm (ne_ab (by omega) (by omega))) (ne_bl (by omega))]
      · rw [if_neg hj, if_neg hj]
    rw [e]
  · have h6 := hE.2.2.2.2.1 i' (by omega)
    have hij : ¬ (i' = i ∧ j = n) := fun h => by
      obtain ⟨rfl, rfl⟩ := h
      omega
    rcases h with rfl | rfl
    · rw [cq_bo E g (by omega), cq_bo E' g (by omega), had _ (ne_ab (by omega) (by omega)) (fun h => hij (ba_inj (by omega) (by omega) h)) (ne_al (by omega))]
    · rw [cq_ba E g (by omega), cq_ba E' g (by omega), hI, hln]
      by_cases hjn : j = n
      · subst hjn
        rw [up_at, hL i' hi' hj]
      · rw [up_ne _ _ hjn]
theorem relab {E E' : Ev} {v : Mem} {i n L : Nat} {x : Int32} {f3 : Nat → va_E} (hi : i < 3) (hn : n = eNb E i) (hn6 : n < 6) (hE : EO E) (hX : EX E) (h1 : En1 E E' i n L) (hL : ∀ i', i' < 3 → n < eNb E i' → eLn E n = L) (h4 : eNb E 4 ≤ n)
    (hK : ∀ k, k ∈ eK E' → k ∈ eK E ∨ k = bo i n ∨ k = ba i n ∨ k = 12 + i)
    (f_l : f3 (8 + i) = lsC (v (8 + i) 0 + 1) (eAd E' (12 + i)) (n + 1)) (f_e : f3 (12 + i) = elC E (va_up (eRow E i) n (some (eAd E' (bo i n)))))
    (f_a : f3 (ba i n) = .inl (eI E, L, .inl (frow x (fun _ => 0) L))) (f_b : f3 (bo i n) = .inr (1, [.ref (eAd E' (ba i n)), .int (-1000005), .int (-1000005)]))
    (f_o : ∀ k, k ≠ 8 + i → k ≠ 12 + i → k ≠ ba i n → k ≠ bo i n → f3 k = cel E v k) : ∀ k ∈ eK E', f3 k = cel E' (vB v i n L x) k := by
  intro k hk
  have h1' := h1
  obtain ⟨-, -, hZ, hI, hO, hnb, hln, had⟩ := h1
  have nbi : eNb E' i = n + 1 := by rw [hnb]; exact up_at _ _ _
  show f3 k = celq E' (vB v i n L x k) k
  by_cases k1 : k = 8 + i
  · subst k1
    rw [f_l, cq_li E' _ hi, nbi]
    unfold eEl vB
    rw [nbi, if_neg (by omega), up_ne _ _ (Ne.symm (ne_al (by omega))), up_ne _ _ (Ne.symm (ne_bl (by omega))), st_at]
  by_cases k2 : k = 12 + i
  · subst k2
    rw [f_e, cq_el E' _ hi, hO]
    have e : eRow E' i = va_up (eRow E i) n (some (eAd E' (bo i n))) := by
      funext j
      unfold eRow
      rw [nbi]
      by_cases hj : j = n
      · subst hj
        rw [if_pos (by omega), up_at]
      · rw [up_ne _ _ hj]
        by_cases hj2 : j < n
        · rw [if_pos (by omega), if_pos (by omega), had _ (fun h => hj (bo_inj (by omega) (by omega) h).2) (Ne.symm (ne_ab (by omega) (by omega))) (ne_bl (by omega))]
        · rw [if_neg (by omega), if_neg (by omega)]
    rw [e]
  by_cases k3 : k = ba i n
  · subst k3
    rw [f_a, cq_ba E' _ (by omega), hI, hln, up_at]
    unfold vB
    rw [up_at]
  by_cases k4 : k = bo i n
  · subst k4
    rw [f_b, cq_bo E' _ (by omega)]
    unfold vB
    rw [up_ne _ _ (Ne.symm (ne_ab (by omega) (by omega))), up_at]
  have hk0 : k ∈ eK E := by
    rcases hK k hk with h | h | h | h
    · exact h
    · exact absurd h k4
    · exact absurd h k3
    · exact absurd h k2
  rw [f_o k k1 k2 k3 k4]
  have ev : vB v i n L x k = v k := by
    unfold vB
    rw [up_ne _ _ k3, up_ne _ _ k4, st_ne _ _ _ k1]
  rw [ev]
  exact celq_same hi hn hn6 hE hX h1' hL h4 (v k) hk0 k1 k2
theorem eo_new {E E' : Ev} {i n L : Nat} (hi : i < 3) (hn : n = eNb E i) (hn6 : n < 6) (hE : EO E) (hX : EX E) (h1 : En1 E E' i n L) (hL3 : 3 ≤ L) (hL9 : L ≤ 9)
    (hK : ∀ k, k ∈ eK E' ↔ (k ∈ eK E ∨ k = bo i n ∨ k = ba i n ∨ k = 12 + i)) : EO E' ∧ EX E' := by
  obtain ⟨-, -, hZ, hI, hO, hnb, hln, had⟩ := h1
  have nbi : eNb E' i = n + 1 := by rw [hnb]; exact up_at _ _ _
  have nbo : ∀ i', i' ≠ i → eNb E' i' = eNb E i' := fun i' h => by rw [hnb]; exact up_ne _ _ h
  obtain ⟨e1, e2, e3, e4, e5, e6, e7⟩ := hE
  refine ⟨⟨fun k hk => (hK k).mpr (Or.inl (e1 k hk)), fun k h1 h2 => (hK k).mpr (Or.inl (e2 k h1 h2)), fun i' hi' h => ?_, fun i' j hi' hj => ?_, fun i' hi' => ?_, fun j hj => ?_, ?_⟩, fun k hk => ?_⟩
  · by_cases hii : i' = i
    · subst hii
      exact (hK _).mpr (Or.inr (Or.inr (Or.inr rfl)))
    · rw [nbo i' hii] at h
      exact (hK _).mpr (Or.inl (e3 i' hi' h))
  · by_cases hii : i' = i
    · subst hii
      rw [nbi] at hj
      by_cases hjn : j = n
      · subst hjn
        exact ⟨(hK _).mpr (Or.inr (Or.inl rfl)), (hK _).mpr (Or.inr (Or.inr (Or.inl rfl)))⟩
      · have := e4 i' j hi' (by omega)
        exact ⟨(hK _).mpr (Or.inl this.1), (hK _).mpr (Or.inl this.2)⟩
    · rw [nbo i' hii] at hj
      have := e4 i' j hi' hj
      exact ⟨(hK _).mpr (Or.inl this.1), (hK _).mpr (Or.inl this.2)⟩
  · by_cases hii : i' = i
    · subst hii
      rw [nbi]
      omega
    · rw [nbo i' hii]
      exact e5 i' hi'
  · rw [hln]
    by_cases hjn : j = n
    · subst hjn
      rw [up_at]
      exact ⟨hL3, hL9⟩
    · rw [up_ne _ _ hjn]
      exact e6 j hj
  · rw [nbo 3 (by omega), nbo 4 (by omega)]
    exact e7
  · rcases (hK k).mp hk with h | h | h | h
    · rcases hX k h with q | q | ⟨i', hi', hne, q⟩ | ⟨i', j, hi', hj, q⟩
      · exact Or.inl q
      · exact Or.inr (Or.inl q)
      · refine Or.inr (Or.inr (Or.inl ⟨i', hi', ?_, q⟩))
        by_cases hii : i' = i
        · subst hii; rw [nbi]; omega
        · rw [nbo i' hii]; exact hne
      · refine Or.inr (Or.inr (Or.inr ⟨i', j, hi', ?_, q⟩))
        by_cases hii : i' = i
        · subst hii; rw [nbi]; omega
        · rw [nbo i' hii]; exact hj
    · exact Or.inr (Or.inr (Or.inr ⟨i, n, hi, by rw [nbi]; omega, Or.inl h⟩))
    · exact Or.inr (Or.inr (Or.inr ⟨i, n, hi, by rw [nbi]; omega, Or.inr h⟩))
    · exact Or.inr (Or.inr (Or.inl ⟨i, hi, by rw [nbi]; omega, h⟩))
theorem ex_fresh {E : Ev} (hE : EO E) (hX : EX E) {i n : Nat} (hi : i < 3) (hn : n = eNb E i) (hn6 : n < 6) : bo i n ∉ eK E ∧ ba i n ∉ eK E ∧ (n = 0 → 12 + i ∉ eK E) := by
  refine ⟨fun h => ?_, fun h => ?_, fun h0 h => ?_⟩
  · rcases hX _ h with q | q | ⟨i', hi', hne, q⟩ | ⟨i', j, hi', hj, q | q⟩
    · exact absurd q (by unfold bo; omega)
    · exact absurd q.2 (by unfold bo; omega)
    · exact absurd q (by unfold bo; omega)
    · have h6 := hE.2.2.2.2.1 i' (by omega)
      obtain ⟨rfl, rfl⟩ := bo_inj (by omega) (by omega) q
      omega
    · have h6 := hE.2.2.2.2.1 i' (by omega)
      exact absurd q (Ne.symm (ne_ab (by omega) (by omega)))
  · rcases hX _ h with q | q | ⟨i', hi', hne, q⟩ | ⟨i', j, hi', hj, q | q⟩
    · exact absurd q (by unfold ba; omega)
    · exact absurd q.2 (by unfold ba; omega)
    · exact absurd q (by unfold ba; omega)
    · have h6 := hE.2.2.2.2.1 i' (by omega)
      exact absurd q (ne_ab (by omega) (by omega))
    · have h6 := hE.2.2.2.2.1 i' (by omega)
      obtain ⟨rfl, rfl⟩ := ba_inj (by omega) (by omega) q
      omega
  · rcases hX _ h with q | q | ⟨i', hi', hne, q⟩ | ⟨i', j, hi', hj, q | q⟩
    · omega
    · omega
    · obtain rfl : i' = i := by omega
      omega
    · exact absurd q.symm (ne_bl (by omega))
    · exact absurd q.symm (ne_al (by omega))

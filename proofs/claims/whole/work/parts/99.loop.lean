/-! the law's loop -/
theorem len4 {L it : Nat} (hL : L ≤ 2048) (h4 : 4 * it ≤ L) (c : ¬ Int32.ofNat L - 4 < nI (4 * it)) : 4 * it + 4 ≤ L := by
  have e : (Int32.ofNat L - 4).toInt = (L : Int) - 4 := by
    have e1 : (Int32.ofNat L).toInt = L := nI_toInt (n := L) (by omega)
    have e2 : (4 : Int32).toInt = 4 := by decide
    rw [ti_sub (by rw [e1, e2]; omega) (by rw [e1, e2]; omega), e1, e2]
  have c : ¬ (Int32.ofNat L - 4).toInt < (nI (4 * it)).toInt := fun q => c (Int32.lt_iff_toInt_lt.mpr q)
  rw [e, nI_toInt (by omega)] at c
  omega
set_option maxHeartbeats 4000000 in
set_option maxRecDepth 100000 in
theorem law_step {p : Program} {l : Launch} {e : Env} {s : State} {m : MethodId} {below : List Frame} {meth : Method} {c : Code} {b L : Nat} {xs : Nat → Int32} (hL : L ≤ 2048) (hr : meth.sig.returnType = ret) (hlocks : meth.locks = false) (hX : va_X b L xs s s.heap) (hbl : b < s.heap.size) (it : Nat) (h4 : 4 * it ≤ L) (E : Ev) (ns : Nat) (v : Mem) (H : Heap) (locs : List Loc) (ls : Array Slot) (F : LFX p m c s b E) (hA : eA E = fun q => s.heap.size ≤ q) (hH : HS E s.heap v H locs) (hI : INV E ns v) (hl : lv_has ls 4 [(0, .ref b), (1, .ref (eAd E 0)), (2, .ref (eAd E 15)), (3, .int (nI (4 * it)))])
    (next : 4 * it + 4 ≤ L → ∀ (E' : Ev) (ns' : Nat) (v' : Mem) (H' : Heap) (locs' : List Loc) (ls' : Array Slot), LFX p m c s b E' → (eA E' = fun q => s.heap.size ≤ q) → HS E' s.heap v' H' locs' → INV E' ns' v' → lv_has ls' 4 [(0, .ref b), (1, .ref (eAd E' 0)), (2, .ref (eAd E' 15)), (3, .int (nI (4 * (it + 1))))] → W p l e room_1 s m #[Value.ref b] below meth c H' locs' (25 + 9 * (it + 1)) (1000 + 66 * (it + 1)) (lw_Z below #[Value.ref b] s) (F0 m 18 ls' [])) : W p l e room_1 s m #[Value.ref b] below meth c H locs (25 + 9 * it) (1000 + 66 * it) (lw_Z below #[Value.ref b] s) (F0 m 18 ls []) := by
  obtain ⟨hx, hb, hml, hown, hts⟩ := id F.1
  have hbA : ¬ eA E b := by rw [hA]; exact Nat.not_le.mpr hbl
  refine lv_iload_n hx hb dL_law_18 rfl (lv_at hl 3 rfl) ?_
  refine lv_aload_n hx hb dL_law_19 rfl (lv_at hl 0 rfl) ?_
  refine va_slen hx hb hX hbl hbA hH.2 dL_law_20 ?_
  refine lv_iconst (v := 4) hx hb dL_law_21 (by decide) ?_
  refine lv_isub hx hb dL_law_22 ?_
  refine lv_icmp_gt (tgt := 826) hx hb dL_law_23 (by decide) (fun cg => ?_) (fun cg => ?_)
  · refine lv_iconst (v := 1) hx hb dL_law_826 (by decide) ?_
    refine va_forget (fun q hq => by have := hH.2.2.2 q hq; rw [hA] at this; exact this) ?_
    refine W.widen (k := 600000) (n := 7302250) (by omega) (by omega) ?_
    exact lw_ret hx hb hr hlocks dL_law_827
  · have hit := len4 hL h4 cg
    refine lv_aload_n hx hb dL_law_26 rfl (lv_at hl 0 rfl) ?_
    refine lv_iload_n hx hb dL_law_27 rfl (lv_at hl 3 rfl) ?_
    refine va_sld hx hb hX hbl hbA hH.2 (vp_in_nI (by omega) (by omega)) dL_law_28 ?_
    refine lv_bipush (v := 31) hx hb dL_law_29 (by decide) ?_
    refine lv_iand hx hb dL_law_31 ?_
    obtain ⟨k, hk, ek⟩ := pk_andE (xs (nI (4 * it)).toNatClampNeg) (m := 31) 5 (by decide)
    rw [ek]
    have hk : k < 32 := hk
    have C : LC p s m c b L xs it E ns v H locs ls (25 + 9 * it) (1000 + 66 * it) := ⟨F, hX, hbl, hbA, hL, hit, hH, hI, hl, by show 25 + 9 * it + 9 ≤ 600000; omega, by show 1000 + 66 * it + 66 ≤ 7302250; omega⟩
    have K : LK p l e s m below meth c b E ls (25 + 9 * it) (1000 + 66 * it) (lw_Z below #[Value.ref b] s) := by
      intro E' ns' v' H' locs' F' hH' hI' eA' a0 a15
      refine lv_iinc (v := nI (4 * (it + 1))) (lv' := [(3, .int (nI (4 * (it + 1)))), (0, .ref b), (1, .ref (eAd E 0)), (2, .ref (eAd E 15))]) hx hb dL_law_820 hl (k := 3) rfl (nI_add (4 * it) 4) (by decide) rfl (fun ls' hl' => ?_)
      refine lv_goto (tgt := 18) hx hb dL_law_823 (by decide) ?_
      rw [← a0, ← a15] at hl'
      exact next hit E' ns' v' H' locs' ls' F' (eA'.trans hA) hH' hI' (lv_sub hl' [1, 2, 3, 0] rfl)
    rcases (show k = 0 ∨ k = 1 ∨ k = 2 ∨ k = 3 ∨ k = 4 ∨ k = 5 ∨ k = 6 ∨ k = 7 ∨ k = 8 ∨ k = 9 ∨ k = 10 ∨ k = 11 ∨ k = 12 ∨ k = 13 ∨ k = 14 ∨ k = 15 ∨ k = 16 ∨ k = 17 ∨ k = 18 ∨ k = 19 ∨ k = 20 ∨ k = 21 ∨ k = 22 ∨ k = 23 ∨ k = 24 ∨ k = 25 ∨ k = 26 ∨ k = 27 ∨ 28 ≤ k by omega) with rfl | rfl | rfl | rfl | rfl | rfl | rfl | rfl | rfl | rfl | rfl | rfl | rfl | rfl | rfl | rfl | rfl | rfl | rfl | rfl | rfl | rfl | rfl | rfl | rfl | rfl | rfl | rfl | hk28
    · exact lv_tableIn (tgt := 160) (off := 128) hx hb dL_law_32 (by decide) (by decide) rfl (by decide) (k_addBoard C K)
    · exact lv_tableIn (tgt := 193) (off := 161) hx hb dL_law_32 (by decide) (by decide) rfl (by decide) (k_setLayer C K)
    · exact lv_tableIn (tgt := 236) (off := 204) hx hb dL_law_32 (by decide) (by decide) rfl (by decide) (k_layerMoisture C K)
    · exact lv_tableIn (tgt := 269) (off := 237) hx hb dL_law_32 (by decide) (by decide) rfl (by decide) (k_averageMoisture C K)
    · exact lv_tableIn (tgt := 292) (off := 260) hx hb dL_law_32 (by decide) (by decide) rfl (by decide) (k_strain C K)
    · exact lv_tableIn (tgt := 315) (off := 283) hx hb dL_law_32 (by decide) (by decide) rfl (by decide) (k_checkHour C K)
    · exact lv_tableIn (tgt := 338) (off := 306) hx hb dL_law_32 (by decide) (by decide) rfl (by decide) (k_wettestBoard C K)
    · exact lv_tableIn (tgt := 351) (off := 319) hx hb dL_law_32 (by decide) (by decide) rfl (by decide) (k_totalWater C K)
    · exact lv_tableIn (tgt := 364) (off := 332) hx hb dL_law_32 (by decide) (by decide) rfl (by decide) (k_sampleError C K)
    · exact lv_tableIn (tgt := 387) (off := 355) hx hb dL_law_32 (by decide) (by decide) rfl (by decide) (k_setDiffusion C K)
    · exact lv_tableIn (tgt := 410) (off := 378) hx hb dL_law_32 (by decide) (by decide) rfl (by decide) (k_setSurface C K)
    · exact lv_tableIn (tgt := 433) (off := 401) hx hb dL_law_32 (by decide) (by decide) rfl (by decide) (k_setCapacity C K)
    · exact lv_tableIn (tgt := 456) (off := 424) hx hb dL_law_32 (by decide) (by decide) rfl (by decide) (k_setStrainLimit C K)
    · exact lv_tableIn (tgt := 479) (off := 447) hx hb dL_law_32 (by decide) (by decide) rfl (by decide) (k_setHumidity C K)
    · exact lv_tableIn (tgt := 502) (off := 470) hx hb dL_law_32 (by decide) (by decide) rfl (by decide) (k_setFan C K)
    · exact lv_tableIn (tgt := 541) (off := 509) hx hb dL_law_32 (by decide) (by decide) rfl (by decide) (k_isFanReversed C K)
    · exact lv_tableIn (tgt := 554) (off := 522) hx hb dL_law_32 (by decide) (by decide) rfl (by decide) (k_setReversalPeriod C K)
    · exact lv_tableIn (tgt := 577) (off := 545) hx hb dL_law_32 (by decide) (by decide) rfl (by decide) (k_dry C K)
    · exact lv_tableIn (tgt := 600) (off := 568) hx hb dL_law_32 (by decide) (by decide) rfl (by decide) (k_rest C K)
    · exact lv_tableIn (tgt := 623) (off := 591) hx hb dL_law_32 (by decide) (by decide) rfl (by decide) (k_hour C K)
    · exact lv_tableIn (tgt := 636) (off := 604) hx hb dL_law_32 (by decide) (by decide) rfl (by decide) (k_evaporated C K)
    · exact lv_tableIn (tgt := 649) (off := 617) hx hb dL_law_32 (by decide) (by decide) rfl (by decide) (k_airMoisture C K)
    · exact lv_tableIn (tgt := 672) (off := 640) hx hb dL_law_32 (by decide) (by decide) rfl (by decide) (k_addStage C K)
    · exact lv_tableIn (tgt := 705) (off := 673) hx hb dL_law_32 (by decide) (by decide) rfl (by decide) (k_clearStages C K)
    · exact lv_tableIn (tgt := 718) (off := 686) hx hb dL_law_32 (by decide) (by decide) rfl (by decide) (k_currentStage C K)
    · exact lv_tableIn (tgt := 731) (off := 699) hx hb dL_law_32 (by decide) (by decide) rfl (by decide) (k_runSchedule C K)
    · exact lv_tableIn (tgt := 764) (off := 732) hx hb dL_law_32 (by decide) (by decide) rfl (by decide) (k_plannedHours C K)
    · exact lv_tableIn (tgt := 787) (off := 755) hx hb dL_law_32 (by decide) (by decide) rfl (by decide) (k_plannedInlet C K)
    · refine lv_tableOut (tgt := 820) hx hb dL_law_32 (Or.inr ?_) (by decide) ?_
      · rw [nI_toInt (by omega)]
        omega
      · exact W.widen (Nat.le_add_right _ 9) (Nat.le_add_right _ 66) (K E ns v H locs F hH hI rfl rfl rfl)
theorem law_loop {p : Program} {l : Launch} {e : Env} {s : State} {m : MethodId} {below : List Frame} {meth : Method} {c : Code} {b L : Nat} {xs : Nat → Int32} (hL : L ≤ 2048) (hr : meth.sig.returnType = ret) (hlocks : meth.locks = false) (hX : va_X b L xs s s.heap) (hbl : b < s.heap.size) : ∀ (n it : Nat), L < 4 * (it + n) → 4 * it ≤ L → ∀ (E : Ev) (ns : Nat) (v : Mem) (H : Heap) (locs : List Loc) (ls : Array Slot), LFX p m c s b E → (eA E = fun q => s.heap.size ≤ q) → HS E s.heap v H locs → INV E ns v → lv_has ls 4 [(0, .ref b), (1, .ref (eAd E 0)), (2, .ref (eAd E 15)), (3, .int (nI (4 * it)))] → W p l e room_1 s m #[Value.ref b] below meth c H locs (25 + 9 * it) (1000 + 66 * it) (lw_Z below #[Value.ref b] s) (F0 m 18 ls [])
  | 0, it, h1, h4 => fun E ns v H locs ls F hA hH hI hl => law_step hL hr hlocks hX hbl it h4 E ns v H locs ls F hA hH hI hl (fun hit => absurd hit (by omega))
  | n + 1, it, h1, h4 => fun E ns v H locs ls F hA hH hI hl => law_step hL hr hlocks hX hbl it h4 E ns v H locs ls F hA hH hI hl (fun hit => law_loop hL hr hlocks hX hbl n (it + 1) (by omega) (by omega))

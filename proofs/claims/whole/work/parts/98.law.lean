/-! THE CLAIM OUT OF ONE WALK OF THE LAW'S BODY. Your part is whole_start (and what it stands on); all else here is the same for every law, but numbers. -/
def R_law : String := "DryingKilnLaw"
def lw_P (b : Addr) (xs : List Int32) (args : Array Value) (s : State) : Prop := args = #[.ref b] ∧ s.IntsAt b xs ∧ xs.length ≤ 2048 ∧ (Jvm.Cond.and given_1 narrow_1).before args s = true
def lw_Q (_ : Array Value) (s : State) (o : Outcome) (t : State) : Prop := o = .returned (some (.int 1)) ∧ Framed s o t [] 600000 7302250
def lw_Z (below : List Frame) (a : Array Value) (s : State) : State → Prop := fun t => ∃ o, t.status = .running ∧ Ended t below o ∧ lw_Q a s o t
/-- the law's own end, with 1 on the stack, nothing written that was there before, its room as the claim has it -/
theorem lw_ret {p : Program} {l : Launch} {e : Env} {s : State} {m : MethodId} {below : List Frame} {meth : Method} {c : Code} {b : Nat} (hx : p.tables.exec = Jvm.exec) (hb : c.code = code) (hr : meth.sig.returnType = ret) (hlocks : meth.locks = false) {pc : Nat} {H : Heap} {ls : Array Slot} (hdg : decode code pc = .ok (.ireturn, 1)) : W p l e room_1 s m #[Value.ref b] below meth c H [] 600000 7302250 (lw_Z below #[Value.ref b] s) (F0 m pc ls [.int 1]) := by
  intro T hT X
  obtain ⟨fs, hret, hrun, hended, hW, hframe⟩ := X.leave (v := some (.int 1)) (hlocks := hlocks) (fun h => by rw [hr] at h; cases h)
  have hmeth' : T.vm.method? m = some meth := X.method'
  refine ⟨T.setFrames fs, ?_, .returned (some (.int 1)), hrun, hended, rfl, ⟨_, rfl⟩, hW, hframe⟩
  jvm_step X.here [X.here.top, hx, hb, hdg, hmeth', hr, ret, narrow_b1]
  (try refine ⟨rfl, ?_⟩); (try refine ⟨rfl, ?_⟩)
  first | (intro acts; rw [hret _ acts rfl rfl rfl]) | rw [hret _ _ rfl rfl rfl]
  exact Steps.refl _
/-- what holds at the law's entry: the machine, the code, the tables' words (any of lw_tbl by 'hts w (by decide +kernel)'), the script of L ints xs at the cell b, what the Statement gives of the start (any of its parts by flat_of_before) -/
def lw_At (p : Program) (s : State) (m : MethodId) (meth : Method) (c : Code) (b L : Nat) (xs : Nat → Int32) : Prop :=
  p.tables.exec = Jvm.exec ∧ c.code = code ∧ meth.sig.returnType = ret ∧ c.maxLocals = 4 ∧ s.vm.findClass R_law = some m.cls ∧ (∀ w ∈ lw_tbl, w.before #[Value.ref b] s = true) ∧ va_X b L xs s s.heap ∧ b < s.heap.size ∧ meth.locks = false ∧ (Jvm.Cond.and given_1 narrow_1).before #[Value.ref b] s = true

/-! what the class's calls leave of the model -/
theorem kdm_m (E : Ev) (v : Mem) (a : Int32) {q : Nat} (hq : mdl q) : kdm E v a q = v q := by
  unfold kdm
  split
  · exact kdp_lo E v (by omega) (by omega) (by omega) _
  · rfl
theorem kasm_m (v : Mem) (ns : Nat) (a b : Int32) {q : Nat} (hq : mdl q) : kasm v ns a b q = v q := by
  unfold kasm sappm sapp
  split
  · split
    · split
      · rfl
      · split
        · rw [st_ne _ _ _ (by omega), st_ne _ _ _ (by omega), st_ne _ _ _ (by omega)]
        · rfl
    · rfl
  · rfl
theorem ksdm_m (E : Ev) (v : Mem) (ns : Nat) (a b : Int32) {q : Nat} (hq : mdl q) : ksdm E v ns a b q = v q := by
  unfold ksdm
  split
  · split
    · exact krs_lo E ns a (by omega) (by omega) (by omega) _ _
    · rfl
  · rfl
theorem kphm_m {E : Ev} (hE : EO E) (v : Mem) (a : Int32) {q : Nat} (hq : mdl q) : kphm E v a q = v q := by
  unfold kphm
  split
  · exact kplm_lo hE a v (by omega) (by omega) (by omega) (by omega)
  · rfl
theorem kpim_m {E : Ev} (hE : EO E) (v : Mem) (a b : Int32) {q : Nat} (hq : mdl q) : kpim E v a b q = v q := by
  unfold kpim
  split
  · split
    · exact kplm_lo hE a v (by omega) (by omega) (by omega) (by omega)
    · rfl
  · rfl
theorem cap_y {E : Ev} {ns : Nat} {v v1 : Mem} (h1 : ∀ q, mdl q → v1 q = v q) (hI : INV E ns v) : ¬ v1 15 7 = 0 := by
  rw [h1 15 (by decide), show v 15 7 = v 1 2 from hI.2.2.2.2.1.2.2.2.1.2.2.1]
  exact hI.2.2.2.2.2.2.1.cap
theorem isB_y {E : Ev} {ns : Nat} {v v1 : Mem} (h1 : ∀ q, mdl q → v1 q = v q) (hI : INV E ns v) : isB (v1 15 10) := by
  rw [h1 15 (by decide), show v 15 10 = v 5 0 from hI.2.2.2.2.2.1.1]
  exact hI.2.2.2.2.2.2.2.2.1
def bz (x : Int32) : Int32 := if x = 0 then 0 else 1
theorem isB_bz (x : Int32) : isB (bz x) := by
  unfold bz
  split
  · exact Or.inl rfl
  · exact Or.inr rfl
section LW
variable {p : Program} {l : Launch} {e : Env} {s : State} {m : MethodId} {below : List Frame} {meth : Method} {c : Code} {H : Heap} {locs : List Loc} {cells slots : Nat} {Q : State → Prop} {b L : Nat} {xs : Nat → Int32} {pc : Nat} {ls : Array Slot} {rest : List Value} {it : Nat}
/-- an int of the script comes on the stack -/
theorem ld_s {lv : List (Nat × Value)} (hx : p.tables.exec = Jvm.exec) (hb : c.code = cL_law) (hX : va_X b L xs s s.heap) (hbl : b < s.heap.size) {A : Nat → Prop} (hbA : ¬ A b) (hS : va_S A s.heap H locs) (h0 : ls[0]? = some (.val (.ref b))) (h3 : ls[3]? = some (.val (.int (nI (4 * it))))) (hL : L ≤ 2048) (hit : 4 * it + 4 ≤ L) {n : Int} (k : Nat) (hk : k < 4) (hn : Int32.ofInt n = nI k) (d0 : decode cL_law pc = .ok (.aload_n 0, 1)) (d1 : decode cL_law (pc + 1) = .ok (.iload_n 3, 1)) (d2 : decode cL_law (pc + 2) = .ok (.iconst n, 1)) (d3 : decode cL_law (pc + 3) = .ok (.iadd, 1)) (d4 : decode cL_law (pc + 4) = .ok (.iaload, 1))
    (kk : W p l e room_1 s m #[Value.ref b] below meth c H locs cells slots Q (F0 m (pc + 5) ls (.int (xs (4 * it + k)) :: rest))) : W p l e room_1 s m #[Value.ref b] below meth c H locs cells slots Q (F0 m pc ls rest) := by
  refine lv_aload_n hx hb d0 rfl h0 ?_
  refine lv_iload_n hx hb d1 rfl h3 ?_
  refine lv_iconst (v := nI k) hx hb d2 hn ?_
  refine lv_iadd hx hb d3 ?_
  rw [nI_add (4 * it) k]
  refine va_sld hx hb hX hbl hbA hS (vp_in_nI (by omega) (by omega)) d4 ?_
  rw [nI_clamp (by omega)]
  exact kk
theorem bz_s (hx : p.tables.exec = Jvm.exec) (hb : c.code = cL_law) {x : Int32} {R : Room} {args : Array Value} (t1 t2 : Nat) (d0 : decode cL_law pc = .ok (.ifCond .eq 7, 3)) (e1 : (pc : Int) + 7 = (t1 : Int)) (d1 : decode cL_law (pc + 3) = .ok (.iconst 1, 1)) (d2 : decode cL_law (pc + 4) = .ok (.goto 4, 3)) (e2 : ((pc + 4 : Nat) : Int) + 4 = (t2 : Int)) (d3 : decode cL_law t1 = .ok (.iconst 0, 1)) (e3 : t1 + 1 = t2)
    (kk : W p l e R s m args below meth c H locs cells slots Q (F0 m t2 ls (.int (bz x) :: rest))) : W p l e R s m args below meth c H locs cells slots Q (F0 m pc ls (.int x :: rest)) := by
  subst e3
  refine lv_if_eq (tgt := t1) hx hb d0 e1 (fun h => ?_) (fun h => ?_)
  · refine lv_iconst (v := 0) hx hb d3 (by decide) ?_
    rw [show bz x = 0 from if_pos h] at kk
    exact kk
  · refine lv_iconst (v := 1) hx hb d1 (by decide) ?_
    refine lv_goto (tgt := t1 + 1) hx hb d2 e2 ?_
    rw [show bz x = 1 from if_neg h] at kk
    exact kk
end LW
/-- the law's words at a call: machine, script, world, invariant -/
abbrev LFX (p : Program) (m : MethodId) (c : Code) (s : State) (b : Nat) (E : Ev) : Prop := FX p m c cL_law 4 s #[Value.ref b] wsL_law RL E
def LC (p : Program) (s : State) (m : MethodId) (c : Code) (b L : Nat) (xs : Nat → Int32) (it : Nat) (E : Ev) (ns : Nat) (v : Mem) (H : Heap) (locs : List Loc) (ls : Array Slot) (cells slots : Nat) : Prop :=
  LFX p m c s b E ∧ va_X b L xs s s.heap ∧ b < s.heap.size ∧ ¬ eA E b ∧ L ≤ 2048 ∧ 4 * it + 4 ≤ L ∧ HS E s.heap v H locs ∧ INV E ns v ∧ lv_has ls 4 [(0, .ref b), (1, .ref (eAd E 0)), (2, .ref (eAd E 15)), (3, .int (nI (4 * it)))] ∧ (cells + 9 ≤ room_1.cells ∧ slots + 66 ≤ room_1.slots)
/-- how it goes on behind a call -/
def LK (p : Program) (l : Launch) (e : Env) (s : State) (m : MethodId) (below : List Frame) (meth : Method) (c : Code) (b : Nat) (E : Ev) (ls : Array Slot) (cells slots : Nat) (Q : State → Prop) : Prop :=
  ∀ (E' : Ev) (ns' : Nat) (v' : Mem) (H' : Heap) (locs' : List Loc), LFX p m c s b E' → HS E' s.heap v' H' locs' → INV E' ns' v' → eA E' = eA E → eAd E' 0 = eAd E 0 → eAd E' 15 = eAd E 15 → W p l e room_1 s m #[Value.ref b] below meth c H' locs' (cells + 9) (slots + 66) Q (F0 m 820 ls [])
set_option maxHeartbeats 4000000 in
set_option maxRecDepth 100000 in
theorem k_setLayer {p : Program} {l : Launch} {e : Env} {s : State} {m : MethodId} {below : List Frame} {meth : Method} {c : Code} {b L : Nat} {xs : Nat → Int32} {it : Nat} {E : Ev} {ns : Nat} {v : Mem} {H : Heap} {locs : List Loc} {ls : Array Slot} {cells slots : Nat} {Q : State → Prop} (C : LC p s m c b L xs it E ns v H locs ls cells slots) (K : LK p l e s m below meth c b E ls cells slots Q) : W p l e room_1 s m #[Value.ref b] below meth c H locs cells slots Q (F0 m 193 ls []) := by
  obtain ⟨F, hX, hbl, hbA, hL, hit, hH, hI, hl, hcs⟩ := C
  obtain ⟨hx, hb, hml, hown, hts⟩ := id F.1
  have hE := hI.1
  have h01 : eNb E 0 = eNb E 1 := hI.2.2.1.1.trans hI.2.2.1.2.1.symm
  have h12 : eNb E 1 = eNb E 2 := hI.2.2.1.2.1.trans hI.2.2.1.2.2.1.symm
  have hf : cells + 0 ≤ room_1.cells ∧ slots + 0 ≤ room_1.slots := ⟨Nat.le_trans (Nat.le_add_right cells 9) hcs.1, Nat.le_trans (Nat.le_add_right slots 66) hcs.2⟩
  refine lv_aload_n hx hb dL_law_193 rfl (lv_at hl 1 rfl) ?_
  refine ld_s (A := eA E) (lv := []) hx hb hX hbl hbA hH.2 (lv_at hl 0 rfl) (lv_at hl 3 rfl) hL hit 1 (by decide) (by decide) dL_law_194 dL_law_195 dL_law_196 dL_law_197 dL_law_198 ?_
  refine ld_s (A := eA E) (lv := []) hx hb hX hbl hbA hH.2 (lv_at hl 0 rfl) (lv_at hl 3 rfl) hL hit 2 (by decide) (by decide) dL_law_199 dL_law_200 dL_law_201 dL_law_202 dL_law_203 ?_
  refine ld_s (A := eA E) (lv := []) hx hb hX hbl hbA hH.2 (lv_at hl 0 rfl) (lv_at hl 3 rfl) hL hit 3 (by decide) (by decide) dL_law_204 dL_law_205 dL_law_206 dL_law_207 dL_law_208 ?_
  refine g_vi (As := [.int (xs (4 * it + 1)), .int (xs (4 * it + 2)), .int (xs (4 * it + 3))]) F hH (c_X4_setLayer l E hE v (xs (4 * it + 1)) (xs (4 * it + 2)) (xs (4 * it + 3))) (cwV 3 hts gL_law_X4_setLayer rfl rfl rfl (by decide +kernel) ⟨Nat.le_of_ble_eq_true rfl, Nat.le_of_ble_eq_true rfl⟩) (hE.1 0 (by decide)) (cq_kiln E _) rfl rfl hl.1 [] rfl (Nat.le_of_ble_eq_true rfl) dL_law_209 hf (fun H locs hH => ?_)
  refine lv_aload_n hx hb dL_law_212 rfl (lv_at hl 2 rfl) ?_
  refine ld_s (A := eA E) (lv := []) hx hb hX hbl hbA hH.2 (lv_at hl 0 rfl) (lv_at hl 3 rfl) hL hit 1 (by decide) (by decide) dL_law_213 dL_law_214 dL_law_215 dL_law_216 dL_law_217 ?_
  refine ld_s (A := eA E) (lv := []) hx hb hX hbl hbA hH.2 (lv_at hl 0 rfl) (lv_at hl 3 rfl) hL hit 2 (by decide) (by decide) dL_law_218 dL_law_219 dL_law_220 dL_law_221 dL_law_222 ?_
  refine ld_s (A := eA E) (lv := []) hx hb hX hbl hbA hH.2 (lv_at hl 0 rfl) (lv_at hl 3 rfl) hL hit 3 (by decide) (by decide) dL_law_223 dL_law_224 dL_law_225 dL_law_226 dL_law_227 ?_
  refine g_vi (As := [.int (xs (4 * it + 1)), .int (xs (4 * it + 2)), .int (xs (4 * it + 3))]) F hH (c_X5_setLayer l E hE (kslm E v (xs (4 * it + 1)) (xs (4 * it + 2)) (xs (4 * it + 3))) (xs (4 * it + 1)) (xs (4 * it + 2)) (xs (4 * it + 3))) (cwV 3 hts gL_law_X5_setLayer rfl rfl rfl (by decide +kernel) ⟨Nat.le_of_ble_eq_true rfl, Nat.le_of_ble_eq_true rfl⟩) (hE.2.1 15 (by decide) (by decide)) (cq_mo E _) rfl rfl hl.1 [.int _] rfl (Nat.le_of_ble_eq_true rfl) dL_law_228 hf (fun H locs hH => ?_)
  have o := o_sl hI (xs (4 * it + 1)) (xs (4 * it + 2)) (xs (4 * it + 3))
  refine lv_icmp_eq (tgt := 820) hx hb dL_law_231 (by decide) (fun _ => ?_) (fun q => absurd o.1.symm q)
  exact W.widen (Nat.le_add_right cells 9) (Nat.le_add_right slots 66) (K E _ _ H locs F hH o.2 rfl rfl rfl)
set_option maxHeartbeats 4000000 in
set_option maxRecDepth 100000 in
theorem k_layerMoisture {p : Program} {l : Launch} {e : Env} {s : State} {m : MethodId} {below : List Frame} {meth : Method} {c : Code} {b L : Nat} {xs : Nat → Int32} {it : Nat} {E : Ev} {ns : Nat} {v : Mem} {H : Heap} {locs : List Loc} {ls : Array Slot} {cells slots : Nat} {Q : State → Prop} (C : LC p s m c b L xs it E ns v H locs ls cells slots) (K : LK p l e s m below meth c b E ls cells slots Q) : W p l e room_1 s m #[Value.ref b] below meth c H locs cells slots Q (F0 m 236 ls []) := by
  obtain ⟨F, hX, hbl, hbA, hL, hit, hH, hI, hl, hcs⟩ := C
  obtain ⟨hx, hb, hml, hown, hts⟩ := id F.1
  have hE := hI.1
  have h01 : eNb E 0 = eNb E 1 := hI.2.2.1.1.trans hI.2.2.1.2.1.symm
  have h12 : eNb E 1 = eNb E 2 := hI.2.2.1.2.1.trans hI.2.2.1.2.2.1.symm
  have hf : cells + 0 ≤ room_1.cells ∧ slots + 0 ≤ room_1.slots := ⟨Nat.le_trans (Nat.le_add_right cells 9) hcs.1, Nat.le_trans (Nat.le_add_right slots 66) hcs.2⟩
  refine lv_aload_n hx hb dL_law_236 rfl (lv_at hl 1 rfl) ?_
  refine ld_s (A := eA E) (lv := []) hx hb hX hbl hbA hH.2 (lv_at hl 0 rfl) (lv_at hl 3 rfl) hL hit 1 (by decide) (by decide) dL_law_237 dL_law_238 dL_law_239 dL_law_240 dL_law_241 ?_
  refine ld_s (A := eA E) (lv := []) hx hb hX hbl hbA hH.2 (lv_at hl 0 rfl) (lv_at hl 3 rfl) hL hit 2 (by decide) (by decide) dL_law_242 dL_law_243 dL_law_244 dL_law_245 dL_law_246 ?_
  refine g_vi (As := [.int (xs (4 * it + 1)), .int (xs (4 * it + 2))]) F hH (c_X4_layerMoisture l E hE v (xs (4 * it + 1)) (xs (4 * it + 2))) (cwV 2 hts gL_law_X4_layerMoisture rfl rfl rfl (by decide +kernel) ⟨Nat.le_of_ble_eq_true rfl, Nat.le_of_ble_eq_true rfl⟩) (hE.1 0 (by decide)) (cq_kiln E _) rfl rfl hl.1 [] rfl (Nat.le_of_ble_eq_true rfl) dL_law_247 hf (fun H locs hH => ?_)
  refine lv_aload_n hx hb dL_law_250 rfl (lv_at hl 2 rfl) ?_
  refine ld_s (A := eA E) (lv := []) hx hb hX hbl hbA hH.2 (lv_at hl 0 rfl) (lv_at hl 3 rfl) hL hit 1 (by decide) (by decide) dL_law_251 dL_law_252 dL_law_253 dL_law_254 dL_law_255 ?_
  refine ld_s (A := eA E) (lv := []) hx hb hX hbl hbA hH.2 (lv_at hl 0 rfl) (lv_at hl 3 rfl) hL hit 2 (by decide) (by decide) dL_law_256 dL_law_257 dL_law_258 dL_law_259 dL_law_260 ?_
  refine g_vi (As := [.int (xs (4 * it + 1)), .int (xs (4 * it + 2))]) F hH (c_X5_layerMoisture l E hE v (xs (4 * it + 1)) (xs (4 * it + 2))) (cwV 2 hts gL_law_X5_layerMoisture rfl rfl rfl (by decide +kernel) ⟨Nat.le_of_ble_eq_true rfl, Nat.le_of_ble_eq_true rfl⟩) (hE.2.1 15 (by decide) (by decide)) (cq_mo E _) rfl rfl hl.1 [.int _] rfl (Nat.le_of_ble_eq_true rfl) dL_law_261 hf (fun H locs hH => ?_)
  refine lv_icmp_eq (tgt := 820) hx hb dL_law_264 (by decide) (fun _ => ?_) (fun q => absurd (q_lm hI (xs (4 * it + 1)) (xs (4 * it + 2))).symm q)
  exact W.widen (Nat.le_add_right cells 9) (Nat.le_add_right slots 66) (K E ns v H locs F hH hI rfl rfl rfl)
set_option maxHeartbeats 4000000 in
set_option maxRecDepth 100000 in
theorem k_averageMoisture {p : Program} {l : Launch} {e : Env} {s : State} {m : MethodId} {below : List Frame} {meth : Method} {c : Code} {b L : Nat} {xs : Nat → Int32} {it : Nat} {E : Ev} {ns : Nat} {v : Mem} {H : Heap} {locs : List Loc} {ls : Array Slot} {cells slots : Nat} {Q : State → Prop} (C : LC p s m c b L xs it E ns v H locs ls cells slots) (K : LK p l e s m below meth c b E ls cells slots Q) : W p l e room_1 s m #[Value.ref b] below meth c H locs cells slots Q (F0 m 269 ls []) := by
  obtain ⟨F, hX, hbl, hbA, hL, hit, hH, hI, hl, hcs⟩ := C
  obtain ⟨hx, hb, hml, hown, hts⟩ := id F.1
  have hE := hI.1
  have h01 : eNb E 0 = eNb E 1 := hI.2.2.1.1.trans hI.2.2.1.2.1.symm
  have h12 : eNb E 1 = eNb E 2 := hI.2.2.1.2.1.trans hI.2.2.1.2.2.1.symm
  have hf : cells + 0 ≤ room_1.cells ∧ slots + 0 ≤ room_1.slots := ⟨Nat.le_trans (Nat.le_add_right cells 9) hcs.1, Nat.le_trans (Nat.le_add_right slots 66) hcs.2⟩
  refine lv_aload_n hx hb dL_law_269 rfl (lv_at hl 1 rfl) ?_
  refine ld_s (A := eA E) (lv := []) hx hb hX hbl hbA hH.2 (lv_at hl 0 rfl) (lv_at hl 3 rfl) hL hit 1 (by decide) (by decide) dL_law_270 dL_law_271 dL_law_272 dL_law_273 dL_law_274 ?_
  refine g_vi (As := [.int (xs (4 * it + 1))]) F hH (c_X4_averageMoisture l E hE v (xs (4 * it + 1))) (cwV 1 hts gL_law_X4_averageMoisture rfl rfl rfl (by decide +kernel) ⟨Nat.le_of_ble_eq_true rfl, Nat.le_of_ble_eq_true rfl⟩) (hE.1 0 (by decide)) (cq_kiln E _) rfl rfl hl.1 [] rfl (Nat.le_of_ble_eq_true rfl) dL_law_275 hf (fun H locs hH => ?_)
  refine lv_aload_n hx hb dL_law_278 rfl (lv_at hl 2 rfl) ?_
  refine ld_s (A := eA E) (lv := []) hx hb hX hbl hbA hH.2 (lv_at hl 0 rfl) (lv_at hl 3 rfl) hL hit 1 (by decide) (by decide) dL_law_279 dL_law_280 dL_law_281 dL_law_282 dL_law_283 ?_
  refine g_vi (As := [.int (xs (4 * it + 1))]) F hH (c_X5_averageMoisture l E hE v (xs (4 * it + 1))) (cwV 1 hts gL_law_X5_averageMoisture rfl rfl rfl (by decide +kernel) ⟨Nat.le_of_ble_eq_true rfl, Nat.le_of_ble_eq_true rfl⟩) (hE.2.1 15 (by decide) (by decide)) (cq_mo E _) rfl rfl hl.1 [.int _] rfl (Nat.le_of_ble_eq_true rfl) dL_law_284 hf (fun H locs hH => ?_)
  refine lv_icmp_eq (tgt := 820) hx hb dL_law_287 (by decide) (fun _ => ?_) (fun q => absurd (q_av hI (xs (4 * it + 1))).symm q)
  exact W.widen (Nat.le_add_right cells 9) (Nat.le_add_right slots 66) (K E ns v H locs F hH hI rfl rfl rfl)
set_option maxHeartbeats 4000000 in
set_option maxRecDepth 100000 in
theorem k_strain {p : Program} {l : Launch} {e : Env} {s : State} {m : MethodId} {below : List Frame} {meth : Method} {c : Code} {b L : Nat} {xs : Nat → Int32} {it : Nat} {E : Ev} {ns : Nat} {v : Mem} {H : Heap} {locs : List Loc} {ls : Array Slot} {cells slots : Nat} {Q : State → Prop} (C : LC p s m c b L xs it E ns v H locs ls cells slots) (K : LK p l e s m below meth c b E ls cells slots Q) : W p l e room_1 s m #[Value.ref b] below meth c H locs cells slots Q (F0 m 292 ls []) := by
  obtain ⟨F, hX, hbl, hbA, hL, hit, hH, hI, hl, hcs⟩ := C
  obtain ⟨hx, hb, hml, hown, hts⟩ := id F.1
  have hE := hI.1
  have h01 : eNb E 0 = eNb E 1 := hI.2.2.1.1.trans hI.2.2.1.2.1.symm
  have h12 : eNb E 1 = eNb E 2 := hI.2.2.1.2.1.trans hI.2.2.1.2.2.1.symm
  have hf : cells + 0 ≤ room_1.cells ∧ slots + 0 ≤ room_1.slots := ⟨Nat.le_trans (Nat.le_add_right cells 9) hcs.1, Nat.le_trans (Nat.le_add_right slots 66) hcs.2⟩
  refine lv_aload_n hx hb dL_law_292 rfl (lv_at hl 1 rfl) ?_
  refine ld_s (A := eA E) (lv := []) hx hb hX hbl hbA hH.2 (lv_at hl 0 rfl) (lv_at hl 3 rfl) hL hit 1 (by decide) (by decide) dL_law_293 dL_law_294 dL_law_295 dL_law_296 dL_law_297 ?_
  refine g_vi (As := [.int (xs (4 * it + 1))]) F hH (c_X4_strain l E hE v (xs (4 * it + 1))) (cwV 1 hts gL_law_X4_strain rfl rfl rfl (by decide +kernel) ⟨Nat.le_of_ble_eq_true rfl, Nat.le_of_ble_eq_true rfl⟩) (hE.1 0 (by decide)) (cq_kiln E _) rfl rfl hl.1 [] rfl (Nat.le_of_ble_eq_true rfl) dL_law_298 hf (fun H locs hH => ?_)
  refine lv_aload_n hx hb dL_law_301 rfl (lv_at hl 2 rfl) ?_
  refine ld_s (A := eA E) (lv := []) hx hb hX hbl hbA hH.2 (lv_at hl 0 rfl) (lv_at hl 3 rfl) hL hit 1 (by decide) (by decide) dL_law_302 dL_law_303 dL_law_304 dL_law_305 dL_law_306 ?_
  refine g_vi (As := [.int (xs (4 * it + 1))]) F hH (c_X5_strain l E hE v (xs (4 * it + 1))) (cwV 1 hts gL_law_X5_strain rfl rfl rfl (by decide +kernel) ⟨Nat.le_of_ble_eq_true rfl, Nat.le_of_ble_eq_true rfl⟩) (hE.2.1 15 (by decide) (by decide)) (cq_mo E _) rfl rfl hl.1 [.int _] rfl (Nat.le_of_ble_eq_true rfl) dL_law_307 hf (fun H locs hH => ?_)
  refine lv_icmp_eq (tgt := 820) hx hb dL_law_310 (by decide) (fun _ => ?_) (fun q => absurd (q_str hI (xs (4 * it + 1))).symm q)
  exact W.widen (Nat.le_add_right cells 9) (Nat.le_add_right slots 66) (K E ns v H locs F hH hI rfl rfl rfl)
set_option maxHeartbeats 4000000 in
set_option maxRecDepth 100000 in
theorem k_checkHour {p : Program} {l : Launch} {e : Env} {s : State} {m : MethodId} {below : List Frame} {meth : Method} {c : Code} {b L : Nat} {xs : Nat → Int32} {it : Nat} {E : Ev} {ns : Nat} {v : Mem} {H : Heap} {locs : List Loc} {ls : Array Slot} {cells slots : Nat} {Q : State → Prop} (C : LC p s m c b L xs it E ns v H locs ls cells slots) (K : LK p l e s m below meth c b E ls cells slots Q) : W p l e room_1 s m #[Value.ref b] below meth c H locs cells slots Q (F0 m 315 ls []) := by
  obtain ⟨F, hX, hbl, hbA, hL, hit, hH, hI, hl, hcs⟩ := C
  obtain ⟨hx, hb, hml, hown, hts⟩ := id F.1
  have hE := hI.1
  have h01 : eNb E 0 = eNb E 1 := hI.2.2.1.1.trans hI.2.2.1.2.1.symm
  have h12 : eNb E 1 = eNb E 2 := hI.2.2.1.2.1.trans hI.2.2.1.2.2.1.symm
  have hf : cells + 0 ≤ room_1.cells ∧ slots + 0 ≤ room_1.slots := ⟨Nat.le_trans (Nat.le_add_right cells 9) hcs.1, Nat.le_trans (Nat.le_add_right slots 66) hcs.2⟩
  refine lv_aload_n hx hb dL_law_315 rfl (lv_at hl 1 rfl) ?_
  refine ld_s (A := eA E) (lv := []) hx hb hX hbl hbA hH.2 (lv_at hl 0 rfl) (lv_at hl 3 rfl) hL hit 1 (by decide) (by decide) dL_law_316 dL_law_317 dL_law_318 dL_law_319 dL_law_320 ?_
  refine g_vi (As := [.int (xs (4 * it + 1))]) F hH (c_X4_checkHour l E hE v (xs (4 * it + 1))) (cwV 1 hts gL_law_X4_checkHour rfl rfl rfl (by decide +kernel) ⟨Nat.le_of_ble_eq_true rfl, Nat.le_of_ble_eq_true rfl⟩) (hE.1 0 (by decide)) (cq_kiln E _) rfl rfl hl.1 [] rfl (Nat.le_of_ble_eq_true rfl) dL_law_321 hf (fun H locs hH => ?_)
  refine lv_aload_n hx hb dL_law_324 rfl (lv_at hl 2 rfl) ?_
  refine ld_s (A := eA E) (lv := []) hx hb hX hbl hbA hH.2 (lv_at hl 0 rfl) (lv_at hl 3 rfl) hL hit 1 (by decide) (by decide) dL_law_325 dL_law_326 dL_law_327 dL_law_328 dL_law_329 ?_
  refine g_vi (As := [.int (xs (4 * it + 1))]) F hH (c_X5_checkHour l E hE v (xs (4 * it + 1))) (cwV 1 hts gL_law_X5_checkHour rfl rfl rfl (by decide +kernel) ⟨Nat.le_of_ble_eq_true rfl, Nat.le_of_ble_eq_true rfl⟩) (hE.2.1 15 (by decide) (by decide)) (cq_mo E _) rfl rfl hl.1 [.int _] rfl (Nat.le_of_ble_eq_true rfl) dL_law_330 hf (fun H locs hH => ?_)
  refine lv_icmp_eq (tgt := 820) hx hb dL_law_333 (by decide) (fun _ => ?_) (fun q => absurd (q_chk hI (xs (4 * it + 1))).symm q)
  exact W.widen (Nat.le_add_right cells 9) (Nat.le_add_right slots 66) (K E ns v H locs F hH hI rfl rfl rfl)
set_option maxHeartbeats 4000000 in
set_option maxRecDepth 100000 in
theorem k_wettestBoard {p : Program} {l : Launch} {e : Env} {s : State} {m : MethodId} {below : List Frame} {meth : Method} {c : Code} {b L : Nat} {xs : Nat → Int32} {it : Nat} {E : Ev} {ns : Nat} {v : Mem} {H : Heap} {locs : List Loc} {ls : Array Slot} {cells slots : Nat} {Q : State → Prop} (C : LC p s m c b L xs it E ns v H locs ls cells slots) (K : LK p l e s m below meth c b E ls cells slots Q) : W p l e room_1 s m #[Value.ref b] below meth c H locs cells slots Q (F0 m 338 ls []) := by
  obtain ⟨F, hX, hbl, hbA, hL, hit, hH, hI, hl, hcs⟩ := C
  obtain ⟨hx, hb, hml, hown, hts⟩ := id F.1
  have hE := hI.1
  have h01 : eNb E 0 = eNb E 1 := hI.2.2.1.1.trans hI.2.2.1.2.1.symm
  have h12 : eNb E 1 = eNb E 2 := hI.2.2.1.2.1.trans hI.2.2.1.2.2.1.symm
  have hf : cells + 0 ≤ room_1.cells ∧ slots + 0 ≤ room_1.slots := ⟨Nat.le_trans (Nat.le_add_right cells 9) hcs.1, Nat.le_trans (Nat.le_add_right slots 66) hcs.2⟩
  refine lv_aload_n hx hb dL_law_338 rfl (lv_at hl 1 rfl) ?_
  refine g_vi (As := []) F hH (c_X4_wettestBoard l E hE v) (cwV 0 hts gL_law_X4_wettestBoard rfl rfl rfl (by decide +kernel) ⟨Nat.le_of_ble_eq_true rfl, Nat.le_of_ble_eq_true rfl⟩) (hE.1 0 (by decide)) (cq_kiln E _) rfl rfl hl.1 [] rfl (Nat.le_of_ble_eq_true rfl) dL_law_339 hf (fun H locs hH => ?_)
  refine lv_aload_n hx hb dL_law_342 rfl (lv_at hl 2 rfl) ?_
  refine g_vi (As := []) F hH (c_X5_wettestBoard l E hE v) (cwV 0 hts gL_law_X5_wettestBoard rfl rfl rfl (by decide +kernel) ⟨Nat.le_of_ble_eq_true rfl, Nat.le_of_ble_eq_true rfl⟩) (hE.2.1 15 (by decide) (by decide)) (cq_mo E _) rfl rfl hl.1 [.int _] rfl (Nat.le_of_ble_eq_true rfl) dL_law_343 hf (fun H locs hH => ?_)
  refine lv_icmp_eq (tgt := 820) hx hb dL_law_346 (by decide) (fun _ => ?_) (fun q => absurd (q_wb hI).symm q)
  exact W.widen (Nat.le_add_right cells 9) (Nat.le_add_right slots 66) (K E ns v H locs F hH hI rfl rfl rfl)
set_option maxHeartbeats 4000000 in
set_option maxRecDepth 100000 in
theorem k_totalWater {p : Program} {l : Launch} {e : Env} {s : State} {m : MethodId} {below : List Frame} {meth : Method} {c : Code} {b L : Nat} {xs : Nat → Int32} {it : Nat} {E : Ev} {ns : Nat} {v : Mem} {H : Heap} {locs : List Loc} {ls : Array Slot} {cells slots : Nat} {Q : State → Prop} (C : LC p s m c b L xs it E ns v H locs ls cells slots) (K : LK p l e s m below meth c b E ls cells slots Q) : W p l e room_1 s m #[Value.ref b] below meth c H locs cells slots Q (F0 m 351 ls []) := by
  obtain ⟨F, hX, hbl, hbA, hL, hit, hH, hI, hl, hcs⟩ := C
  obtain ⟨hx, hb, hml, hown, hts⟩ := id F.1
  have hE := hI.1
  have h01 : eNb E 0 = eNb E 1 := hI.2.2.1.1.trans hI.2.2.1.2.1.symm
  have h12 : eNb E 1 = eNb E 2 := hI.2.2.1.2.1.trans hI.2.2.1.2.2.1.symm
  have hf : cells + 0 ≤ room_1.cells ∧ slots + 0 ≤ room_1.slots := ⟨Nat.le_trans (Nat.le_add_right cells 9) hcs.1, Nat.le_trans (Nat.le_add_right slots 66) hcs.2⟩
  refine lv_aload_n hx hb dL_law_351 rfl (lv_at hl 1 rfl) ?_
  refine g_vi (As := []) F hH (c_X4_totalWater l E hE v) (cwV 0 hts gL_law_X4_totalWater rfl rfl rfl (by decide +kernel) ⟨Nat.le_of_ble_eq_true rfl, Nat.le_of_ble_eq_true rfl⟩) (hE.1 0 (by decide)) (cq_kiln E _) rfl rfl hl.1 [] rfl (Nat.le_of_ble_eq_true rfl) dL_law_352 hf (fun H locs hH => ?_)
  refine lv_aload_n hx hb dL_law_355 rfl (lv_at hl 2 rfl) ?_
  refine g_vi (As := []) F hH (c_X5_totalWater l E hE v) (cwV 0 hts gL_law_X5_totalWater rfl rfl rfl (by decide +kernel) ⟨Nat.le_of_ble_eq_true rfl, Nat.le_of_ble_eq_true rfl⟩) (hE.2.1 15 (by decide) (by decide)) (cq_mo E _) rfl rfl hl.1 [.int _] rfl (Nat.le_of_ble_eq_true rfl) dL_law_356 hf (fun H locs hH => ?_)
  refine lv_icmp_eq (tgt := 820) hx hb dL_law_359 (by decide) (fun _ => ?_) (fun q => absurd (q_wat hI).symm q)
  exact W.widen (Nat.le_add_right cells 9) (Nat.le_add_right slots 66) (K E ns v H locs F hH hI rfl rfl rfl)
set_option maxHeartbeats 4000000 in
set_option maxRecDepth 100000 in
theorem k_sampleError {p : Program} {l : Launch} {e : Env} {s : State} {m : MethodId} {below : List Frame} {meth : Method} {c : Code} {b L : Nat} {xs : Nat → Int32} {it : Nat} {E : Ev} {ns : Nat} {v : Mem} {H : Heap} {locs : List Loc} {ls : Array Slot} {cells slots : Nat} {Q : State → Prop} (C : LC p s m c b L xs it E ns v H locs ls cells slots) (K : LK p l e s m below meth c b E ls cells slots Q) : W p l e room_1 s m #[Value.ref b] below meth c H locs cells slots Q (F0 m 364 ls []) := by
  obtain ⟨F, hX, hbl, hbA, hL, hit, hH, hI, hl, hcs⟩ := C
  obtain ⟨hx, hb, hml, hown, hts⟩ := id F.1
  have hE := hI.1
  have h01 : eNb E 0 = eNb E 1 := hI.2.2.1.1.trans hI.2.2.1.2.1.symm
  have h12 : eNb E 1 = eNb E 2 := hI.2.2.1.2.1.trans hI.2.2.1.2.2.1.symm
  have hf : cells + 0 ≤ room_1.cells ∧ slots + 0 ≤ room_1.slots := ⟨Nat.le_trans (Nat.le_add_right cells 9) hcs.1, Nat.le_trans (Nat.le_add_right slots 66) hcs.2⟩
  refine lv_aload_n hx hb dL_law_364 rfl (lv_at hl 1 rfl) ?_
  refine ld_s (A := eA E) (lv := []) hx hb hX hbl hbA hH.2 (lv_at hl 0 rfl) (lv_at hl 3 rfl) hL hit 1 (by decide) (by decide) dL_law_365 dL_law_366 dL_law_367 dL_law_368 dL_law_369 ?_
  refine g_vi (As := [.int (xs (4 * it + 1))]) F hH (c_X4_sampleError l E hE v (xs (4 * it + 1))) (cwV 1 hts gL_law_X4_sampleError rfl rfl rfl (by decide +kernel) ⟨Nat.le_of_ble_eq_true rfl, Nat.le_of_ble_eq_true rfl⟩) (hE.1 0 (by decide)) (cq_kiln E _) rfl rfl hl.1 [] rfl (Nat.le_of_ble_eq_true rfl) dL_law_370 hf (fun H locs hH => ?_)
  refine lv_aload_n hx hb dL_law_373 rfl (lv_at hl 2 rfl) ?_
  refine ld_s (A := eA E) (lv := []) hx hb hX hbl hbA hH.2 (lv_at hl 0 rfl) (lv_at hl 3 rfl) hL hit 1 (by decide) (by decide) dL_law_374 dL_law_375 dL_law_376 dL_law_377 dL_law_378 ?_
  refine g_vi (As := [.int (xs (4 * it + 1))]) F hH (c_X5_sampleError l E hE v (xs (4 * it + 1))) (cwV 1 hts gL_law_X5_sampleError rfl rfl rfl (by decide +kernel) ⟨Nat.le_of_ble_eq_true rfl, Nat.le_of_ble_eq_true rfl⟩) (hE.2.1 15 (by decide) (by decide)) (cq_mo E _) rfl rfl hl.1 [.int _] rfl (Nat.le_of_ble_eq_true rfl) dL_law_379 hf (fun H locs hH => ?_)
  refine lv_icmp_eq (tgt := 820) hx hb dL_law_382 (by decide) (fun _ => ?_) (fun q => absurd (q_se hI (xs (4 * it + 1))).symm q)
  exact W.widen (Nat.le_add_right cells 9) (Nat.le_add_right slots 66) (K E ns v H locs F hH hI rfl rfl rfl)
set_option maxHeartbeats 4000000 in
set_option maxRecDepth 100000 in
theorem k_setDiffusion {p : Program} {l : Launch} {e : Env} {s : State} {m : MethodId} {below : List Frame} {meth : Method} {c : Code} {b L : Nat} {xs : Nat → Int32} {it : Nat} {E : Ev} {ns : Nat} {v : Mem} {H : Heap} {locs : List Loc} {ls : Array Slot} {cells slots : Nat} {Q : State → Prop} (C : LC p s m c b L xs it E ns v H locs ls cells slots) (K : LK p l e s m below meth c b E ls cells slots Q) : W p l e room_1 s m #[Value.ref b] below meth c H locs cells slots Q (F0 m 387 ls []) := by
  obtain ⟨F, hX, hbl, hbA, hL, hit, hH, hI, hl, hcs⟩ := C
  obtain ⟨hx, hb, hml, hown, hts⟩ := id F.1
  have hE := hI.1
  have h01 : eNb E 0 = eNb E 1 := hI.2.2.1.1.trans hI.2.2.1.2.1.symm
  have h12 : eNb E 1 = eNb E 2 := hI.2.2.1.2.1.trans hI.2.2.1.2.2.1.symm
  have hf : cells + 0 ≤ room_1.cells ∧ slots + 0 ≤ room_1.slots := ⟨Nat.le_trans (Nat.le_add_right cells 9) hcs.1, Nat.le_trans (Nat.le_add_right slots 66) hcs.2⟩
  refine lv_aload_n hx hb dL_law_387 rfl (lv_at hl 1 rfl) ?_
  refine ld_s (A := eA E) (lv := []) hx hb hX hbl hbA hH.2 (lv_at hl 0 rfl) (lv_at hl 3 rfl) hL hit 1 (by decide) (by decide) dL_law_388 dL_law_389 dL_law_390 dL_law_391 dL_law_392 ?_
  refine g_vi (As := [.int (xs (4 * it + 1))]) F hH (c_X4_setDiffusion l E hE v (xs (4 * it + 1))) (cwV 1 hts gL_law_X4_setDiffusion rfl rfl rfl (by decide +kernel) ⟨Nat.le_of_ble_eq_true rfl, Nat.le_of_ble_eq_true rfl⟩) (hE.1 0 (by decide)) (cq_kiln E _) rfl rfl hl.1 [] rfl (Nat.le_of_ble_eq_true rfl) dL_law_393 hf (fun H locs hH => ?_)
  refine lv_aload_n hx hb dL_law_396 rfl (lv_at hl 2 rfl) ?_
  refine ld_s (A := eA E) (lv := []) hx hb hX hbl hbA hH.2 (lv_at hl 0 rfl) (lv_at hl 3 rfl) hL hit 1 (by decide) (by decide) dL_law_397 dL_law_398 dL_law_399 dL_law_400 dL_law_401 ?_
  refine g_vi (As := [.int (xs (4 * it + 1))]) F hH (c_X5_setDiffusion l E hE (ksm v 0 (xs (4 * it + 1)) 1 250) (xs (4 * it + 1))) (cwV 1 hts gL_law_X5_setDiffusion rfl rfl rfl (by decide +kernel) ⟨Nat.le_of_ble_eq_true rfl, Nat.le_of_ble_eq_true rfl⟩) (hE.2.1 15 (by decide) (by decide)) (cq_mo E _) rfl rfl hl.1 [.int _] rfl (Nat.le_of_ble_eq_true rfl) dL_law_402 hf (fun H locs hH => ?_)
  have o := o_set (a := (xs (4 * it + 1))) hI (Or.inl ⟨rfl, rfl⟩) sb_0
  refine lv_icmp_eq (tgt := 820) hx hb dL_law_405 (by decide) (fun _ => ?_) (fun q => absurd o.1.symm q)
  exact W.widen (Nat.le_add_right cells 9) (Nat.le_add_right slots 66) (K E _ _ H locs F hH o.2 rfl rfl rfl)
set_option maxHeartbeats 4000000 in
set_option maxRecDepth 100000 in
theorem k_setSurface {p : Program} {l : Launch} {e : Env} {s : State} {m : MethodId} {below : List Frame} {meth : Method} {c : Code} {b L : Nat} {xs : Nat → Int32} {it : Nat} {E : Ev} {ns : Nat} {v : Mem} {H : Heap} {locs : List Loc} {ls : Array Slot} {cells slots : Nat} {Q : State → Prop} (C : LC p s m c b L xs it E ns v H locs ls cells slots) (K : LK p l e s m below meth c b E ls cells slots Q) : W p l e room_1 s m #[Value.ref b] below meth c H locs cells slots Q (F0 m 410 ls []) := by
  obtain ⟨F, hX, hbl, hbA, hL, hit, hH, hI, hl, hcs⟩ := C
  obtain ⟨hx, hb, hml, hown, hts⟩ := id F.1
  have hE := hI.1
  have h01 : eNb E 0 = eNb E 1 := hI.2.2.1.1.trans hI.2.2.1.2.1.symm
  have h12 : eNb E 1 = eNb E 2 := hI.2.2.1.2.1.trans hI.2.2.1.2.2.1.symm
  have hf : cells + 0 ≤ room_1.cells ∧ slots + 0 ≤ room_1.slots := ⟨Nat.le_trans (Nat.le_add_right cells 9) hcs.1, Nat.le_trans (Nat.le_add_right slots 66) hcs.2⟩
  refine lv_aload_n hx hb dL_law_410 rfl (lv_at hl 1 rfl) ?_
  refine ld_s (A := eA E) (lv := []) hx hb hX hbl hbA hH.2 (lv_at hl 0 rfl) (lv_at hl 3 rfl) hL hit 1 (by decide) (by decide) dL_law_411 dL_law_412 dL_law_413 dL_law_414 dL_law_415 ?_
  refine g_vi (As := [.int (xs (4 * it + 1))]) F hH (c_X4_setSurface l E hE v (xs (4 * it + 1))) (cwV 1 hts gL_law_X4_setSurface rfl rfl rfl (by decide +kernel) ⟨Nat.le_of_ble_eq_true rfl, Nat.le_of_ble_eq_true rfl⟩) (hE.1 0 (by decide)) (cq_kiln E _) rfl rfl hl.1 [] rfl (Nat.le_of_ble_eq_true rfl) dL_law_416 hf (fun H locs hH => ?_)
  refine lv_aload_n hx hb dL_law_419 rfl (lv_at hl 2 rfl) ?_
  refine ld_s (A := eA E) (lv := []) hx hb hX hbl hbA hH.2 (lv_at hl 0 rfl) (lv_at hl 3 rfl) hL hit 1 (by decide) (by decide) dL_law_420 dL_law_421 dL_law_422 dL_law_423 dL_law_424 ?_
  refine g_vi (As := [.int (xs (4 * it + 1))]) F hH (c_X5_setSurface l E hE (ksm v 1 (xs (4 * it + 1)) 1 500) (xs (4 * it + 1))) (cwV 1 hts gL_law_X5_setSurface rfl rfl rfl (by decide +kernel) ⟨Nat.le_of_ble_eq_true rfl, Nat.le_of_ble_eq_true rfl⟩) (hE.2.1 15 (by decide) (by decide)) (cq_mo E _) rfl rfl hl.1 [.int _] rfl (Nat.le_of_ble_eq_true rfl) dL_law_425 hf (fun H locs hH => ?_)
  have o := o_set (a := (xs (4 * it + 1))) hI (Or.inr (Or.inl ⟨rfl, rfl⟩)) sb_1
  refine lv_icmp_eq (tgt := 820) hx hb dL_law_428 (by decide) (fun _ => ?_) (fun q => absurd o.1.symm q)
  exact W.widen (Nat.le_add_right cells 9) (Nat.le_add_right slots 66) (K E _ _ H locs F hH o.2 rfl rfl rfl)
set_option maxHeartbeats 4000000 in
set_option maxRecDepth 100000 in
theorem k_setCapacity {p : Program} {l : Launch} {e : Env} {s : State} {m : MethodId} {below : List Frame} {meth : Method} {c : Code} {b L : Nat} {xs : Nat → Int32} {it : Nat} {E : Ev} {ns : Nat} {v : Mem} {H : Heap} {locs : List Loc} {ls : Array Slot} {cells slots : Nat} {Q : State → Prop} (C : LC p s m c b L xs it E ns v H locs ls cells slots) (K : LK p l e s m below meth c b E ls cells slots Q) : W p l e room_1 s m #[Value.ref b] below meth c H locs cells slots Q (F0 m 433 ls []) := by
  obtain ⟨F, hX, hbl, hbA, hL, hit, hH, hI, hl, hcs⟩ := C
  obtain ⟨hx, hb, hml, hown, hts⟩ := id F.1
  have hE := hI.1
  have h01 : eNb E 0 = eNb E 1 := hI.2.2.1.1.trans hI.2.2.1.2.1.symm
  have h12 : eNb E 1 = eNb E 2 := hI.2.2.1.2.1.trans hI.2.2.1.2.2.1.symm
  have hf : cells + 0 ≤ room_1.cells ∧ slots + 0 ≤ room_1.slots := ⟨Nat.le_trans (Nat.le_add_right cells 9) hcs.1, Nat.le_trans (Nat.le_add_right slots 66) hcs.2⟩
  refine lv_aload_n hx hb dL_law_433 rfl (lv_at hl 1 rfl) ?_
  refine ld_s (A := eA E) (lv := []) hx hb hX hbl hbA hH.2 (lv_at hl 0 rfl) (lv_at hl 3 rfl) hL hit 1 (by decide) (by decide) dL_law_434 dL_law_435 dL_law_436 dL_law_437 dL_law_438 ?_
  refine g_vi (As := [.int (xs (4 * it + 1))]) F hH (c_X4_setCapacity l E hE v (xs (4 * it + 1))) (cwV 1 hts gL_law_X4_setCapacity rfl rfl rfl (by decide +kernel) ⟨Nat.le_of_ble_eq_true rfl, Nat.le_of_ble_eq_true rfl⟩) (hE.1 0 (by decide)) (cq_kiln E _) rfl rfl hl.1 [] rfl (Nat.le_of_ble_eq_true rfl) dL_law_439 hf (fun H locs hH => ?_)
  refine lv_aload_n hx hb dL_law_442 rfl (lv_at hl 2 rfl) ?_
  refine ld_s (A := eA E) (lv := []) hx hb hX hbl hbA hH.2 (lv_at hl 0 rfl) (lv_at hl 3 rfl) hL hit 1 (by decide) (by decide) dL_law_443 dL_law_444 dL_law_445 dL_law_446 dL_law_447 ?_
  refine g_vi (As := [.int (xs (4 * it + 1))]) F hH (c_X5_setCapacity l E hE (ksm v 2 (xs (4 * it + 1)) 1 10000) (xs (4 * it + 1))) (cwV 1 hts gL_law_X5_setCapacity rfl rfl rfl (by decide +kernel) ⟨Nat.le_of_ble_eq_true rfl, Nat.le_of_ble_eq_true rfl⟩) (hE.2.1 15 (by decide) (by decide)) (cq_mo E _) rfl rfl hl.1 [.int _] rfl (Nat.le_of_ble_eq_true rfl) dL_law_448 hf (fun H locs hH => ?_)
  have o := o_set (a := (xs (4 * it + 1))) hI (Or.inr (Or.inr (Or.inl ⟨rfl, rfl⟩))) sb_2
  refine lv_icmp_eq (tgt := 820) hx hb dL_law_451 (by decide) (fun _ => ?_) (fun q => absurd o.1.symm q)
  exact W.widen (Nat.le_add_right cells 9) (Nat.le_add_right slots 66) (K E _ _ H locs F hH o.2 rfl rfl rfl)
set_option maxHeartbeats 4000000 in
set_option maxRecDepth 100000 in
theorem k_setStrainLimit {p : Program} {l : Launch} {e : Env} {s : State} {m : MethodId} {below : List Frame} {meth : Method} {c : Code} {b L : Nat} {xs : Nat → Int32} {it : Nat} {E : Ev} {ns : Nat} {v : Mem} {H : Heap} {locs : List Loc} {ls : Array Slot} {cells slots : Nat} {Q : State → Prop} (C : LC p s m c b L xs it E ns v H locs ls cells slots) (K : LK p l e s m below meth c b E ls cells slots Q) : W p l e room_1 s m #[Value.ref b] below meth c H locs cells slots Q (F0 m 456 ls []) := by
  obtain ⟨F, hX, hbl, hbA, hL, hit, hH, hI, hl, hcs⟩ := C
  obtain ⟨hx, hb, hml, hown, hts⟩ := id F.1
  have hE := hI.1
  have h01 : eNb E 0 = eNb E 1 := hI.2.2.1.1.trans hI.2.2.1.2.1.symm
  have h12 : eNb E 1 = eNb E 2 := hI.2.2.1.2.1.trans hI.2.2.1.2.2.1.symm
  have hf : cells + 0 ≤ room_1.cells ∧ slots + 0 ≤ room_1.slots := ⟨Nat.le_trans (Nat.le_add_right cells 9) hcs.1, Nat.le_trans (Nat.le_add_right slots 66) hcs.2⟩
  refine lv_aload_n hx hb dL_law_456 rfl (lv_at hl 1 rfl) ?_
  refine ld_s (A := eA E) (lv := []) hx hb hX hbl hbA hH.2 (lv_at hl 0 rfl) (lv_at hl 3 rfl) hL hit 1 (by decide) (by decide) dL_law_457 dL_law_458 dL_law_459 dL_law_460 dL_law_461 ?_
  refine g_vi (As := [.int (xs (4 * it + 1))]) F hH (c_X4_setStrainLimit l E hE v (xs (4 * it + 1))) (cwV 1 hts gL_law_X4_setStrainLimit rfl rfl rfl (by decide +kernel) ⟨Nat.le_of_ble_eq_true rfl, Nat.le_of_ble_eq_true rfl⟩) (hE.1 0 (by decide)) (cq_kiln E _) rfl rfl hl.1 [] rfl (Nat.le_of_ble_eq_true rfl) dL_law_462 hf (fun H locs hH => ?_)
  refine lv_aload_n hx hb dL_law_465 rfl (lv_at hl 2 rfl) ?_
  refine ld_s (A := eA E) (lv := []) hx hb hX hbl hbA hH.2 (lv_at hl 0 rfl) (lv_at hl 3 rfl) hL hit 1 (by decide) (by decide) dL_law_466 dL_law_467 dL_law_468 dL_law_469 dL_law_470 ?_
  refine g_vi (As := [.int (xs (4 * it + 1))]) F hH (c_X5_setStrainLimit l E hE (ksm v 3 (xs (4 * it + 1)) 20 900) (xs (4 * it + 1))) (cwV 1 hts gL_law_X5_setStrainLimit rfl rfl rfl (by decide +kernel) ⟨Nat.le_of_ble_eq_true rfl, Nat.le_of_ble_eq_true rfl⟩) (hE.2.1 15 (by decide) (by decide)) (cq_mo E _) rfl rfl hl.1 [.int _] rfl (Nat.le_of_ble_eq_true rfl) dL_law_471 hf (fun H locs hH => ?_)
  have o := o_set (a := (xs (4 * it + 1))) hI (Or.inr (Or.inr (Or.inr (Or.inl ⟨rfl, rfl⟩)))) sb_3
  refine lv_icmp_eq (tgt := 820) hx hb dL_law_474 (by decide) (fun _ => ?_) (fun q => absurd o.1.symm q)
  exact W.widen (Nat.le_add_right cells 9) (Nat.le_add_right slots 66) (K E _ _ H locs F hH o.2 rfl rfl rfl)
set_option maxHeartbeats 4000000 in
set_option maxRecDepth 100000 in
theorem k_setHumidity {p : Program} {l : Launch} {e : Env} {s : State} {m : MethodId} {below : List Frame} {meth : Method} {c : Code} {b L : Nat} {xs : Nat → Int32} {it : Nat} {E : Ev} {ns : Nat} {v : Mem} {H : Heap} {locs : List Loc} {ls : Array Slot} {cells slots : Nat} {Q : State → Prop} (C : LC p s m c b L xs it E ns v H locs ls cells slots) (K : LK p l e s m below meth c b E ls cells slots Q) : W p l e room_1 s m #[Value.ref b] below meth c H locs cells slots Q (F0 m 479 ls []) := by
  obtain ⟨F, hX, hbl, hbA, hL, hit, hH, hI, hl, hcs⟩ := C
  obtain ⟨hx, hb, hml, hown, hts⟩ := id F.1
  have hE := hI.1
  have h01 : eNb E 0 = eNb E 1 := hI.2.2.1.1.trans hI.2.2.1.2.1.symm
  have h12 : eNb E 1 = eNb E 2 := hI.2.2.1.2.1.trans hI.2.2.1.2.2.1.symm
  have hf : cells + 0 ≤ room_1.cells ∧ slots + 0 ≤ room_1.slots := ⟨Nat.le_trans (Nat.le_add_right cells 9) hcs.1, Nat.le_trans (Nat.le_add_right slots 66) hcs.2⟩
  refine lv_aload_n hx hb dL_law_479 rfl (lv_at hl 1 rfl) ?_
  refine ld_s (A := eA E) (lv := []) hx hb hX hbl hbA hH.2 (lv_at hl 0 rfl) (lv_at hl 3 rfl) hL hit 1 (by decide) (by decide) dL_law_480 dL_law_481 dL_law_482 dL_law_483 dL_law_484 ?_
  refine g_vi (As := [.int (xs (4 * it + 1))]) F hH (c_X4_setHumidity l E hE v (xs (4 * it + 1))) (cwV 1 hts gL_law_X4_setHumidity rfl rfl rfl (by decide +kernel) ⟨Nat.le_of_ble_eq_true rfl, Nat.le_of_ble_eq_true rfl⟩) (hE.1 0 (by decide)) (cq_kiln E _) rfl rfl hl.1 [] rfl (Nat.le_of_ble_eq_true rfl) dL_law_485 hf (fun H locs hH => ?_)
  refine lv_aload_n hx hb dL_law_488 rfl (lv_at hl 2 rfl) ?_
  refine ld_s (A := eA E) (lv := []) hx hb hX hbl hbA hH.2 (lv_at hl 0 rfl) (lv_at hl 3 rfl) hL hit 1 (by decide) (by decide) dL_law_489 dL_law_490 dL_law_491 dL_law_492 dL_law_493 ?_
  refine g_vi (As := [.int (xs (4 * it + 1))]) F hH (c_X5_setHumidity l E hE (ksm v 4 (xs (4 * it + 1)) 0 300) (xs (4 * it + 1))) (cwV 1 hts gL_law_X5_setHumidity rfl rfl rfl (by decide +kernel) ⟨Nat.le_of_ble_eq_true rfl, Nat.le_of_ble_eq_true rfl⟩) (hE.2.1 15 (by decide) (by decide)) (cq_mo E _) rfl rfl hl.1 [.int _] rfl (Nat.le_of_ble_eq_true rfl) dL_law_494 hf (fun H locs hH => ?_)
  have o := o_set (a := (xs (4 * it + 1))) hI (Or.inr (Or.inr (Or.inr (Or.inr (Or.inl ⟨rfl, rfl⟩))))) sb_4
  refine lv_icmp_eq (tgt := 820) hx hb dL_law_497 (by decide) (fun _ => ?_) (fun q => absurd o.1.symm q)
  exact W.widen (Nat.le_add_right cells 9) (Nat.le_add_right slots 66) (K E _ _ H locs F hH o.2 rfl rfl rfl)
set_option maxHeartbeats 4000000 in
set_option maxRecDepth 100000 in
theorem k_setFan {p : Program} {l : Launch} {e : Env} {s : State} {m : MethodId} {below : List Frame} {meth : Method} {c : Code} {b L : Nat} {xs : Nat → Int32} {it : Nat} {E : Ev} {ns : Nat} {v : Mem} {H : Heap} {locs : List Loc} {ls : Array Slot} {cells slots : Nat} {Q : State → Prop} (C : LC p s m c b L xs it E ns v H locs ls cells slots) (K : LK p l e s m below meth c b E ls cells slots Q) : W p l e room_1 s m #[Value.ref b] below meth c H locs cells slots Q (F0 m 502 ls []) := by
  obtain ⟨F, hX, hbl, hbA, hL, hit, hH, hI, hl, hcs⟩ := C
  obtain ⟨hx, hb, hml, hown, hts⟩ := id F.1
  have hE := hI.1
  have h01 : eNb E 0 = eNb E 1 := hI.2.2.1.1.trans hI.2.2.1.2.1.symm
  have h12 : eNb E 1 = eNb E 2 := hI.2.2.1.2.1.trans hI.2.2.1.2.2.1.symm
  have hf : cells + 0 ≤ room_1.cells ∧ slots + 0 ≤ room_1.slots := ⟨Nat.le_trans (Nat.le_add_right cells 9) hcs.1, Nat.le_trans (Nat.le_add_right slots 66) hcs.2⟩
  refine lv_aload_n hx hb dL_law_502 rfl (lv_at hl 1 rfl) ?_
  refine ld_s (A := eA E) (lv := []) hx hb hX hbl hbA hH.2 (lv_at hl 0 rfl) (lv_at hl 3 rfl) hL hit 1 (by decide) (by decide) dL_law_503 dL_law_504 dL_law_505 dL_law_506 dL_law_507 ?_
  refine bz_s (R := room_1) hx hb 515 516 dL_law_508 (by decide) dL_law_511 dL_law_512 (by decide) dL_law_515 rfl ?_
  refine g_vi (As := [.int (bz (xs (4 * it + 1)))]) F hH (c_X4_setFan l E hE v (bz (xs (4 * it + 1))) (isB_bz _)) (cwV 1 hts gL_law_X4_setFan rfl rfl rfl (by decide +kernel) ⟨Nat.le_of_ble_eq_true rfl, Nat.le_of_ble_eq_true rfl⟩) (hE.1 0 (by decide)) (cq_kiln E _) rfl rfl hl.1 [] rfl (Nat.le_of_ble_eq_true rfl) dL_law_516 hf (fun H locs hH => ?_)
  refine lv_aload_n hx hb dL_law_519 rfl (lv_at hl 2 rfl) ?_
  refine ld_s (A := eA E) (lv := []) hx hb hX hbl hbA hH.2 (lv_at hl 0 rfl) (lv_at hl 3 rfl) hL hit 1 (by decide) (by decide) dL_law_520 dL_law_521 dL_law_522 dL_law_523 dL_law_524 ?_
  refine bz_s (R := room_1) hx hb 532 533 dL_law_525 (by decide) dL_law_528 dL_law_529 (by decide) dL_law_532 rfl ?_
  refine g_vi (As := [.int (bz (xs (4 * it + 1)))]) F hH (c_X5_setFan l E hE (st v 5 0 (bz (xs (4 * it + 1)))) (bz (xs (4 * it + 1))) (isB_bz _)) (cwV 1 hts gL_law_X5_setFan rfl rfl rfl (by decide +kernel) ⟨Nat.le_of_ble_eq_true rfl, Nat.le_of_ble_eq_true rfl⟩) (hE.2.1 15 (by decide) (by decide)) (cq_mo E _) rfl rfl hl.1 [.int _] rfl (Nat.le_of_ble_eq_true rfl) dL_law_533 hf (fun H locs hH => ?_)
  have o := o_fan hI (isB_bz (xs (4 * it + 1)))
  refine lv_icmp_eq (tgt := 820) hx hb dL_law_536 (by decide) (fun _ => ?_) (fun q => absurd o.1.symm q)
  exact W.widen (Nat.le_add_right cells 9) (Nat.le_add_right slots 66) (K E _ _ H locs F hH o.2 rfl rfl rfl)
set_option maxHeartbeats 4000000 in
set_option maxRecDepth 100000 in
theorem k_isFanReversed {p : Program} {l : Launch} {e : Env} {s : State} {m : MethodId} {below : List Frame} {meth : Method} {c : Code} {b L : Nat} {xs : Nat → Int32} {it : Nat} {E : Ev} {ns : Nat} {v : Mem} {H : Heap} {locs : List Loc} {ls : Array Slot} {cells slots : Nat} {Q : State → Prop} (C : LC p s m c b L xs it E ns v H locs ls cells slots) (K : LK p l e s m below meth c b E ls cells slots Q) : W p l e room_1 s m #[Value.ref b] below meth c H locs cells slots Q (F0 m 541 ls []) := by
  obtain ⟨F, hX, hbl, hbA, hL, hit, hH, hI, hl, hcs⟩ := C
  obtain ⟨hx, hb, hml, hown, hts⟩ := id F.1
  have hE := hI.1
  have h01 : eNb E 0 = eNb E 1 := hI.2.2.1.1.trans hI.2.2.1.2.1.symm
  have h12 : eNb E 1 = eNb E 2 := hI.2.2.1.2.1.trans hI.2.2.1.2.2.1.symm
  have hf : cells + 0 ≤ room_1.cells ∧ slots + 0 ≤ room_1.slots := ⟨Nat.le_trans (Nat.le_add_right cells 9) hcs.1, Nat.le_trans (Nat.le_add_right slots 66) hcs.2⟩
  refine lv_aload_n hx hb dL_law_541 rfl (lv_at hl 1 rfl) ?_
  refine g_vi (As := []) F hH (c_X4_isFanReversed l E hE v) (cwV 0 hts gL_law_X4_isFanReversed rfl rfl rfl (by decide +kernel) ⟨Nat.le_of_ble_eq_true rfl, Nat.le_of_ble_eq_true rfl⟩) (hE.1 0 (by decide)) (cq_kiln E _) rfl rfl hl.1 [] rfl (Nat.le_of_ble_eq_true rfl) dL_law_542 hf (fun H locs hH => ?_)
  refine lv_aload_n hx hb dL_law_545 rfl (lv_at hl 2 rfl) ?_
  refine g_vi (As := []) F hH (c_X5_isFanReversed l E hE v) (cwV 0 hts gL_law_X5_isFanReversed rfl rfl rfl (by decide +kernel) ⟨Nat.le_of_ble_eq_true rfl, Nat.le_of_ble_eq_true rfl⟩) (hE.2.1 15 (by decide) (by decide)) (cq_mo E _) rfl rfl hl.1 [.int _] rfl (Nat.le_of_ble_eq_true rfl) dL_law_546 hf (fun H locs hH => ?_)
  refine lv_icmp_eq (tgt := 820) hx hb dL_law_549 (by decide) (fun _ => ?_) (fun q => absurd (q_fan hI).symm q)
  exact W.widen (Nat.le_add_right cells 9) (Nat.le_add_right slots 66) (K E ns v H locs F hH hI rfl rfl rfl)
set_option maxHeartbeats 4000000 in
set_option maxRecDepth 100000 in
theorem k_setReversalPeriod {p : Program} {l : Launch} {e : Env} {s : State} {m : MethodId} {below : List Frame} {meth : Method} {c : Code} {b L : Nat} {xs : Nat → Int32} {it : Nat} {E : Ev} {ns : Nat} {v : Mem} {H : Heap} {locs : List Loc} {ls : Array Slot} {cells slots : Nat} {Q : State → Prop} (C : LC p s m c b L xs it E ns v H locs ls cells slots) (K : LK p l e s m below meth c b E ls cells slots Q) : W p l e room_1 s m #[Value.ref b] below meth c H locs cells slots Q (F0 m 554 ls []) := by
  obtain ⟨F, hX, hbl, hbA, hL, hit, hH, hI, hl, hcs⟩ := C
  obtain ⟨hx, hb, hml, hown, hts⟩ := id F.1
  have hE := hI.1
  have h01 : eNb E 0 = eNb E 1 := hI.2.2.1.1.trans hI.2.2.1.2.1.symm
  have h12 : eNb E 1 = eNb E 2 := hI.2.2.1.2.1.trans hI.2.2.1.2.2.1.symm
  have hf : cells + 0 ≤ room_1.cells ∧ slots + 0 ≤ room_1.slots := ⟨Nat.le_trans (Nat.le_add_right cells 9) hcs.1, Nat.le_trans (Nat.le_add_right slots 66) hcs.2⟩
  refine lv_aload_n hx hb dL_law_554 rfl (lv_at hl 1 rfl) ?_
  refine ld_s (A := eA E) (lv := []) hx hb hX hbl hbA hH.2 (lv_at hl 0 rfl) (lv_at hl 3 rfl) hL hit 1 (by decide) (by decide) dL_law_555 dL_law_556 dL_law_557 dL_law_558 dL_law_559 ?_
  refine g_vi (As := [.int (xs (4 * it + 1))]) F hH (c_X4_setReversalPeriod l E hE v (xs (4 * it + 1))) (cwV 1 hts gL_law_X4_setReversalPeriod rfl rfl rfl (by decide +kernel) ⟨Nat.le_of_ble_eq_true rfl, Nat.le_of_ble_eq_true rfl⟩) (hE.1 0 (by decide)) (cq_kiln E _) rfl rfl hl.1 [] rfl (Nat.le_of_ble_eq_true rfl) dL_law_560 hf (fun H locs hH => ?_)
  refine lv_aload_n hx hb dL_law_563 rfl (lv_at hl 2 rfl) ?_
  refine ld_s (A := eA E) (lv := []) hx hb hX hbl hbA hH.2 (lv_at hl 0 rfl) (lv_at hl 3 rfl) hL hit 1 (by decide) (by decide) dL_law_564 dL_law_565 dL_law_566 dL_law_567 dL_law_568 ?_
  refine g_vi (As := [.int (xs (4 * it + 1))]) F hH (c_X5_setReversalPeriod l E hE (ksm v 5 (xs (4 * it + 1)) 0 48) (xs (4 * it + 1))) (cwV 1 hts gL_law_X5_setReversalPeriod rfl rfl rfl (by decide +kernel) ⟨Nat.le_of_ble_eq_true rfl, Nat.le_of_ble_eq_true rfl⟩) (hE.2.1 15 (by decide) (by decide)) (cq_mo E _) rfl rfl hl.1 [.int _] rfl (Nat.le_of_ble_eq_true rfl) dL_law_569 hf (fun H locs hH => ?_)
  have o := o_set (a := (xs (4 * it + 1))) hI (Or.inr (Or.inr (Or.inr (Or.inr (Or.inr ⟨rfl, rfl⟩))))) sb_5
  refine lv_icmp_eq (tgt := 820) hx hb dL_law_572 (by decide) (fun _ => ?_) (fun q => absurd o.1.symm q)
  exact W.widen (Nat.le_add_right cells 9) (Nat.le_add_right slots 66) (K E _ _ H locs F hH o.2 rfl rfl rfl)
set_option maxHeartbeats 4000000 in
set_option maxRecDepth 100000 in
theorem k_dry {p : Program} {l : Launch} {e : Env} {s : State} {m : MethodId} {below : List Frame} {meth : Method} {c : Code} {b L : Nat} {xs : Nat → Int32} {it : Nat} {E : Ev} {ns : Nat} {v : Mem} {H : Heap} {locs : List Loc} {ls : Array Slot} {cells slots : Nat} {Q : State → Prop} (C : LC p s m c b L xs it E ns v H locs ls cells slots) (K : LK p l e s m below meth c b E ls cells slots Q) : W p l e room_1 s m #[Value.ref b] below meth c H locs cells slots Q (F0 m 577 ls []) := by
  obtain ⟨F, hX, hbl, hbA, hL, hit, hH, hI, hl, hcs⟩ := C
  obtain ⟨hx, hb, hml, hown, hts⟩ := id F.1
  have hE := hI.1
  have h01 : eNb E 0 = eNb E 1 := hI.2.2.1.1.trans hI.2.2.1.2.1.symm
  have h12 : eNb E 1 = eNb E 2 := hI.2.2.1.2.1.trans hI.2.2.1.2.2.1.symm
  have hf : cells + 0 ≤ room_1.cells ∧ slots + 0 ≤ room_1.slots := ⟨Nat.le_trans (Nat.le_add_right cells 9) hcs.1, Nat.le_trans (Nat.le_add_right slots 66) hcs.2⟩
  refine lv_aload_n hx hb dL_law_577 rfl (lv_at hl 1 rfl) ?_
  refine ld_s (A := eA E) (lv := []) hx hb hX hbl hbA hH.2 (lv_at hl 0 rfl) (lv_at hl 3 rfl) hL hit 1 (by decide) (by decide) dL_law_578 dL_law_579 dL_law_580 dL_law_581 dL_law_582 ?_
  refine g_vi (As := [.int (xs (4 * it + 1))]) F hH (c_X4_dry l E hE v (xs (4 * it + 1))) (cwV 1 hts gL_law_X4_dry rfl rfl rfl (by decide +kernel) ⟨Nat.le_of_ble_eq_true rfl, Nat.le_of_ble_eq_true rfl⟩) (hE.1 0 (by decide)) (cq_kiln E _) rfl rfl hl.1 [] rfl (Nat.le_of_ble_eq_true rfl) dL_law_583 hf (fun H locs hH => ?_)
  refine lv_aload_n hx hb dL_law_586 rfl (lv_at hl 2 rfl) ?_
  refine ld_s (A := eA E) (lv := []) hx hb hX hbl hbA hH.2 (lv_at hl 0 rfl) (lv_at hl 3 rfl) hL hit 1 (by decide) (by decide) dL_law_587 dL_law_588 dL_law_589 dL_law_590 dL_law_591 ?_
  refine g_vi (As := [.int (xs (4 * it + 1))]) F hH (c_X5_dry l E hE (kdm E v (xs (4 * it + 1))) (xs (4 * it + 1)) (cap_y (fun q hq => kdm_m E v _ hq) hI)) (cwV 1 hts gL_law_X5_dry rfl rfl rfl (by decide +kernel) ⟨Nat.le_of_ble_eq_true rfl, Nat.le_of_ble_eq_true rfl⟩) (hE.2.1 15 (by decide) (by decide)) (cq_mo E _) rfl rfl hl.1 [.int _] rfl (Nat.le_of_ble_eq_true rfl) dL_law_592 hf (fun H locs hH => ?_)
  have o := o_dry hI (xs (4 * it + 1))
  refine lv_icmp_eq (tgt := 820) hx hb dL_law_595 (by decide) (fun _ => ?_) (fun q => absurd o.1.symm q)
  exact W.widen (Nat.le_add_right cells 9) (Nat.le_add_right slots 66) (K E _ _ H locs F hH o.2 rfl rfl rfl)
set_option maxHeartbeats 4000000 in
set_option maxRecDepth 100000 in
theorem k_rest {p : Program} {l : Launch} {e : Env} {s : State} {m : MethodId} {below : List Frame} {meth : Method} {c : Code} {b L : Nat} {xs : Nat → Int32} {it : Nat} {E : Ev} {ns : Nat} {v : Mem} {H : Heap} {locs : List Loc} {ls : Array Slot} {cells slots : Nat} {Q : State → Prop} (C : LC p s m c b L xs it E ns v H locs ls cells slots) (K : LK p l e s m below meth c b E ls cells slots Q) : W p l e room_1 s m #[Value.ref b] below meth c H locs cells slots Q (F0 m 600 ls []) := by
  obtain ⟨F, hX, hbl, hbA, hL, hit, hH, hI, hl, hcs⟩ := C
  obtain ⟨hx, hb, hml, hown, hts⟩ := id F.1
  have hE := hI.1
  have h01 : eNb E 0 = eNb E 1 := hI.2.2.1.1.trans hI.2.2.1.2.1.symm
  have h12 : eNb E 1 = eNb E 2 := hI.2.2.1.2.1.trans hI.2.2.1.2.2.1.symm
  have hf : cells + 0 ≤ room_1.cells ∧ slots + 0 ≤ room_1.slots := ⟨Nat.le_trans (Nat.le_add_right cells 9) hcs.1, Nat.le_trans (Nat.le_add_right slots 66) hcs.2⟩
  refine lv_aload_n hx hb dL_law_600 rfl (lv_at hl 1 rfl) ?_
  refine ld_s (A := eA E) (lv := []) hx hb hX hbl hbA hH.2 (lv_at hl 0 rfl) (lv_at hl 3 rfl) hL hit 1 (by decide) (by decide) dL_law_601 dL_law_602 dL_law_603 dL_law_604 dL_law_605 ?_
  refine g_vi (As := [.int (xs (4 * it + 1))]) F hH (c_X4_rest l E hE v (xs (4 * it + 1))) (cwV 1 hts gL_law_X4_rest rfl rfl rfl (by decide +kernel) ⟨Nat.le_of_ble_eq_true rfl, Nat.le_of_ble_eq_true rfl⟩) (hE.1 0 (by decide)) (cq_kiln E _) rfl rfl hl.1 [] rfl (Nat.le_of_ble_eq_true rfl) dL_law_606 hf (fun H locs hH => ?_)
  refine lv_aload_n hx hb dL_law_609 rfl (lv_at hl 2 rfl) ?_
  refine ld_s (A := eA E) (lv := []) hx hb hX hbl hbA hH.2 (lv_at hl 0 rfl) (lv_at hl 3 rfl) hL hit 1 (by decide) (by decide) dL_law_610 dL_law_611 dL_law_612 dL_law_613 dL_law_614 ?_
  refine g_vi (As := [.int (xs (4 * it + 1))]) F hH (c_X5_rest l E hE (krm E v (xs (4 * it + 1))) (xs (4 * it + 1))) (cwV 1 hts gL_law_X5_rest rfl rfl rfl (by decide +kernel) ⟨Nat.le_of_ble_eq_true rfl, Nat.le_of_ble_eq_true rfl⟩) (hE.2.1 15 (by decide) (by decide)) (cq_mo E _) rfl rfl hl.1 [.int _] rfl (Nat.le_of_ble_eq_true rfl) dL_law_615 hf (fun H locs hH => ?_)
  have o := o_rest hI (xs (4 * it + 1))
  refine lv_icmp_eq (tgt := 820) hx hb dL_law_618 (by decide) (fun _ => ?_) (fun q => absurd o.1.symm q)
  exact W.widen (Nat.le_add_right cells 9) (Nat.le_add_right slots 66) (K E _ _ H locs F hH o.2 rfl rfl rfl)
set_option maxHeartbeats 4000000 in
set_option maxRecDepth 100000 in
theorem k_hour {p : Program} {l : Launch} {e : Env} {s : State} {m : MethodId} {below : List Frame} {meth : Method} {c : Code} {b L : Nat} {xs : Nat → Int32} {it : Nat} {E : Ev} {ns : Nat} {v : Mem} {H : Heap} {locs : List Loc} {ls : Array Slot} {cells slots : Nat} {Q : State → Prop} (C : LC p s m c b L xs it E ns v H locs ls cells slots) (K : LK p l e s m below meth c b E ls cells slots Q) : W p l e room_1 s m #[Value.ref b] below meth c H locs cells slots Q (F0 m 623 ls []) := by
  obtain ⟨F, hX, hbl, hbA, hL, hit, hH, hI, hl, hcs⟩ := C
  obtain ⟨hx, hb, hml, hown, hts⟩ := id F.1
  have hE := hI.1
  have h01 : eNb E 0 = eNb E 1 := hI.2.2.1.1.trans hI.2.2.1.2.1.symm
  have h12 : eNb E 1 = eNb E 2 := hI.2.2.1.2.1.trans hI.2.2.1.2.2.1.symm
  have hf : cells + 0 ≤ room_1.cells ∧ slots + 0 ≤ room_1.slots := ⟨Nat.le_trans (Nat.le_add_right cells 9) hcs.1, Nat.le_trans (Nat.le_add_right slots 66) hcs.2⟩
  refine lv_aload_n hx hb dL_law_623 rfl (lv_at hl 1 rfl) ?_
  refine g_vi (As := []) F hH (c_X4_hour l E hE v) (cwV 0 hts gL_law_X4_hour rfl rfl rfl (by decide +kernel) ⟨Nat.le_of_ble_eq_true rfl, Nat.le_of_ble_eq_true rfl⟩) (hE.1 0 (by decide)) (cq_kiln E _) rfl rfl hl.1 [] rfl (Nat.le_of_ble_eq_true rfl) dL_law_624 hf (fun H locs hH => ?_)
  refine lv_aload_n hx hb dL_law_627 rfl (lv_at hl 2 rfl) ?_
  refine g_vi (As := []) F hH (c_X5_hour l E hE v) (cwV 0 hts gL_law_X5_hour rfl rfl rfl (by decide +kernel) ⟨Nat.le_of_ble_eq_true rfl, Nat.le_of_ble_eq_true rfl⟩) (hE.2.1 15 (by decide) (by decide)) (cq_mo E _) rfl rfl hl.1 [.int _] rfl (Nat.le_of_ble_eq_true rfl) dL_law_628 hf (fun H locs hH => ?_)
  refine lv_icmp_eq (tgt := 820) hx hb dL_law_631 (by decide) (fun _ => ?_) (fun q => absurd (q_hour hI).symm q)
  exact W.widen (Nat.le_add_right cells 9) (Nat.le_add_right slots 66) (K E ns v H locs F hH hI rfl rfl rfl)
set_option maxHeartbeats 4000000 in
set_option maxRecDepth 100000 in
theorem k_evaporated {p : Program} {l : Launch} {e : Env} {s : State} {m : MethodId} {below : List Frame} {meth : Method} {c : Code} {b L : Nat} {xs : Nat → Int32} {it : Nat} {E : Ev} {ns : Nat} {v : Mem} {H : Heap} {locs : List Loc} {ls : Array Slot} {cells slots : Nat} {Q : State → Prop} (C : LC p s m c b L xs it E ns v H locs ls cells slots) (K : LK p l e s m below meth c b E ls cells slots Q) : W p l e room_1 s m #[Value.ref b] below meth c H locs cells slots Q (F0 m 636 ls []) := by
  obtain ⟨F, hX, hbl, hbA, hL, hit, hH, hI, hl, hcs⟩ := C
  obtain ⟨hx, hb, hml, hown, hts⟩ := id F.1
  have hE := hI.1
  have h01 : eNb E 0 = eNb E 1 := hI.2.2.1.1.trans hI.2.2.1.2.1.symm
  have h12 : eNb E 1 = eNb E 2 := hI.2.2.1.2.1.trans hI.2.2.1.2.2.1.symm
  have hf : cells + 0 ≤ room_1.cells ∧ slots + 0 ≤ room_1.slots := ⟨Nat.le_trans (Nat.le_add_right cells 9) hcs.1, Nat.le_trans (Nat.le_add_right slots 66) hcs.2⟩
  refine lv_aload_n hx hb dL_law_636 rfl (lv_at hl 1 rfl) ?_
  refine g_vi (As := []) F hH (c_X4_evaporated l E hE v) (cwV 0 hts gL_law_X4_evaporated rfl rfl rfl (by decide +kernel) ⟨Nat.le_of_ble_eq_true rfl, Nat.le_of_ble_eq_true rfl⟩) (hE.1 0 (by decide)) (cq_kiln E _) rfl rfl hl.1 [] rfl (Nat.le_of_ble_eq_true rfl) dL_law_637 hf (fun H locs hH => ?_)
  refine lv_aload_n hx hb dL_law_640 rfl (lv_at hl 2 rfl) ?_
  refine g_vi (As := []) F hH (c_X5_evaporated l E hE v) (cwV 0 hts gL_law_X5_evaporated rfl rfl rfl (by decide +kernel) ⟨Nat.le_of_ble_eq_true rfl, Nat.le_of_ble_eq_true rfl⟩) (hE.2.1 15 (by decide) (by decide)) (cq_mo E _) rfl rfl hl.1 [.int _] rfl (Nat.le_of_ble_eq_true rfl) dL_law_641 hf (fun H locs hH => ?_)
  refine lv_icmp_eq (tgt := 820) hx hb dL_law_644 (by decide) (fun _ => ?_) (fun q => absurd (q_evap hI).symm q)
  exact W.widen (Nat.le_add_right cells 9) (Nat.le_add_right slots 66) (K E ns v H locs F hH hI rfl rfl rfl)
set_option maxHeartbeats 4000000 in
set_option maxRecDepth 100000 in
theorem k_airMoisture {p : Program} {l : Launch} {e : Env} {s : State} {m : MethodId} {below : List Frame} {meth : Method} {c : Code} {b L : Nat} {xs : Nat → Int32} {it : Nat} {E : Ev} {ns : Nat} {v : Mem} {H : Heap} {locs : List Loc} {ls : Array Slot} {cells slots : Nat} {Q : State → Prop} (C : LC p s m c b L xs it E ns v H locs ls cells slots) (K : LK p l e s m below meth c b E ls cells slots Q) : W p l e room_1 s m #[Value.ref b] below meth c H locs cells slots Q (F0 m 649 ls []) := by
  obtain ⟨F, hX, hbl, hbA, hL, hit, hH, hI, hl, hcs⟩ := C
  obtain ⟨hx, hb, hml, hown, hts⟩ := id F.1
  have hE := hI.1
  have h01 : eNb E 0 = eNb E 1 := hI.2.2.1.1.trans hI.2.2.1.2.1.symm
  have h12 : eNb E 1 = eNb E 2 := hI.2.2.1.2.1.trans hI.2.2.1.2.2.1.symm
  have hf : cells + 0 ≤ room_1.cells ∧ slots + 0 ≤ room_1.slots := ⟨Nat.le_trans (Nat.le_add_right cells 9) hcs.1, Nat.le_trans (Nat.le_add_right slots 66) hcs.2⟩
  refine lv_aload_n hx hb dL_law_649 rfl (lv_at hl 1 rfl) ?_
  refine ld_s (A := eA E) (lv := []) hx hb hX hbl hbA hH.2 (lv_at hl 0 rfl) (lv_at hl 3 rfl) hL hit 1 (by decide) (by decide) dL_law_650 dL_law_651 dL_law_652 dL_law_653 dL_law_654 ?_
  refine g_vi (As := [.int (xs (4 * it + 1))]) F hH (c_X4_airMoisture l E hE v (xs (4 * it + 1))) (cwV 1 hts gL_law_X4_airMoisture rfl rfl rfl (by decide +kernel) ⟨Nat.le_of_ble_eq_true rfl, Nat.le_of_ble_eq_true rfl⟩) (hE.1 0 (by decide)) (cq_kiln E _) rfl rfl hl.1 [] rfl (Nat.le_of_ble_eq_true rfl) dL_law_655 hf (fun H locs hH => ?_)
  refine lv_aload_n hx hb dL_law_658 rfl (lv_at hl 2 rfl) ?_
  refine ld_s (A := eA E) (lv := []) hx hb hX hbl hbA hH.2 (lv_at hl 0 rfl) (lv_at hl 3 rfl) hL hit 1 (by decide) (by decide) dL_law_659 dL_law_660 dL_law_661 dL_law_662 dL_law_663 ?_
  refine g_vi (As := [.int (xs (4 * it + 1))]) F hH (c_X5_airMoisture l E hE v (xs (4 * it + 1))) (cwV 1 hts gL_law_X5_airMoisture rfl rfl rfl (by decide +kernel) ⟨Nat.le_of_ble_eq_true rfl, Nat.le_of_ble_eq_true rfl⟩) (hE.2.1 15 (by decide) (by decide)) (cq_mo E _) rfl rfl hl.1 [.int _] rfl (Nat.le_of_ble_eq_true rfl) dL_law_664 hf (fun H locs hH => ?_)
  refine lv_icmp_eq (tgt := 820) hx hb dL_law_667 (by decide) (fun _ => ?_) (fun q => absurd (q_air hI (xs (4 * it + 1))).symm q)
  exact W.widen (Nat.le_add_right cells 9) (Nat.le_add_right slots 66) (K E ns v H locs F hH hI rfl rfl rfl)
set_option maxHeartbeats 4000000 in
set_option maxRecDepth 100000 in
theorem k_addStage {p : Program} {l : Launch} {e : Env} {s : State} {m : MethodId} {below : List Frame} {meth : Method} {c : Code} {b L : Nat} {xs : Nat → Int32} {it : Nat} {E : Ev} {ns : Nat} {v : Mem} {H : Heap} {locs : List Loc} {ls : Array Slot} {cells slots : Nat} {Q : State → Prop} (C : LC p s m c b L xs it E ns v H locs ls cells slots) (K : LK p l e s m below meth c b E ls cells slots Q) : W p l e room_1 s m #[Value.ref b] below meth c H locs cells slots Q (F0 m 672 ls []) := by
  obtain ⟨F, hX, hbl, hbA, hL, hit, hH, hI, hl, hcs⟩ := C
  obtain ⟨hx, hb, hml, hown, hts⟩ := id F.1
  have hE := hI.1
  have h01 : eNb E 0 = eNb E 1 := hI.2.2.1.1.trans hI.2.2.1.2.1.symm
  have h12 : eNb E 1 = eNb E 2 := hI.2.2.1.2.1.trans hI.2.2.1.2.2.1.symm
  have hf : cells + 0 ≤ room_1.cells ∧ slots + 0 ≤ room_1.slots := ⟨Nat.le_trans (Nat.le_add_right cells 9) hcs.1, Nat.le_trans (Nat.le_add_right slots 66) hcs.2⟩
  refine lv_aload_n hx hb dL_law_672 rfl (lv_at hl 1 rfl) ?_
  refine ld_s (A := eA E) (lv := []) hx hb hX hbl hbA hH.2 (lv_at hl 0 rfl) (lv_at hl 3 rfl) hL hit 1 (by decide) (by decide) dL_law_673 dL_law_674 dL_law_675 dL_law_676 dL_law_677 ?_
  refine ld_s (A := eA E) (lv := []) hx hb hX hbl hbA hH.2 (lv_at hl 0 rfl) (lv_at hl 3 rfl) hL hit 2 (by decide) (by decide) dL_law_678 dL_law_679 dL_law_680 dL_law_681 dL_law_682 ?_
  refine g_vi (As := [.int (xs (4 * it + 1)), .int (xs (4 * it + 2))]) F hH (c_X4_addStage l E hE v (xs (4 * it + 1)) (xs (4 * it + 2)) ns (q_ns hI).1 hI.2.2.2.1) (cwV 2 hts gL_law_X4_addStage rfl rfl rfl (by decide +kernel) ⟨Nat.le_of_ble_eq_true rfl, Nat.le_of_ble_eq_true rfl⟩) (hE.1 0 (by decide)) (cq_kiln E _) rfl rfl hl.1 [] rfl (Nat.le_of_ble_eq_true rfl) dL_law_683 hf (fun H locs hH => ?_)
  refine lv_aload_n hx hb dL_law_686 rfl (lv_at hl 2 rfl) ?_
  refine ld_s (A := eA E) (lv := []) hx hb hX hbl hbA hH.2 (lv_at hl 0 rfl) (lv_at hl 3 rfl) hL hit 1 (by decide) (by decide) dL_law_687 dL_law_688 dL_law_689 dL_law_690 dL_law_691 ?_
  refine ld_s (A := eA E) (lv := []) hx hb hX hbl hbA hH.2 (lv_at hl 0 rfl) (lv_at hl 3 rfl) hL hit 2 (by decide) (by decide) dL_law_692 dL_law_693 dL_law_694 dL_law_695 dL_law_696 ?_
  refine g_vi (As := [.int (xs (4 * it + 1)), .int (xs (4 * it + 2))]) F hH (c_X5_addStage l E hE (kasm v ns (xs (4 * it + 1)) (xs (4 * it + 2))) (xs (4 * it + 1)) (xs (4 * it + 2)) ns (by rw [kasm_m v ns _ _ (show mdl 15 by decide)]; exact (q_ns hI).2) hI.2.2.2.1) (cwV 2 hts gL_law_X5_addStage rfl rfl rfl (by decide +kernel) ⟨Nat.le_of_ble_eq_true rfl, Nat.le_of_ble_eq_true rfl⟩) (hE.2.1 15 (by decide) (by decide)) (cq_mo E _) rfl rfl hl.1 [.int _] rfl (Nat.le_of_ble_eq_true rfl) dL_law_697 hf (fun H locs hH => ?_)
  obtain ⟨o, ns', hI'⟩ := o_as hI (xs (4 * it + 1)) (xs (4 * it + 2))
  refine lv_icmp_eq (tgt := 820) hx hb dL_law_700 (by decide) (fun _ => ?_) (fun q => absurd o.symm q)
  exact W.widen (Nat.le_add_right cells 9) (Nat.le_add_right slots 66) (K E ns' _ H locs F hH hI' rfl rfl rfl)
set_option maxHeartbeats 4000000 in
set_option maxRecDepth 100000 in
theorem k_clearStages {p : Program} {l : Launch} {e : Env} {s : State} {m : MethodId} {below : List Frame} {meth : Method} {c : Code} {b L : Nat} {xs : Nat → Int32} {it : Nat} {E : Ev} {ns : Nat} {v : Mem} {H : Heap} {locs : List Loc} {ls : Array Slot} {cells slots : Nat} {Q : State → Prop} (C : LC p s m c b L xs it E ns v H locs ls cells slots) (K : LK p l e s m below meth c b E ls cells slots Q) : W p l e room_1 s m #[Value.ref b] below meth c H locs cells slots Q (F0 m 705 ls []) := by
  obtain ⟨F, hX, hbl, hbA, hL, hit, hH, hI, hl, hcs⟩ := C
  obtain ⟨hx, hb, hml, hown, hts⟩ := id F.1
  have hE := hI.1
  have h01 : eNb E 0 = eNb E 1 := hI.2.2.1.1.trans hI.2.2.1.2.1.symm
  have h12 : eNb E 1 = eNb E 2 := hI.2.2.1.2.1.trans hI.2.2.1.2.2.1.symm
  have hf : cells + 0 ≤ room_1.cells ∧ slots + 0 ≤ room_1.slots := ⟨Nat.le_trans (Nat.le_add_right cells 9) hcs.1, Nat.le_trans (Nat.le_add_right slots 66) hcs.2⟩
  refine lv_aload_n hx hb dL_law_705 rfl (lv_at hl 1 rfl) ?_
  refine g_vi (As := []) F hH (c_X4_clearStages l E hE v) (cwV 0 hts gL_law_X4_clearStages rfl rfl rfl (by decide +kernel) ⟨Nat.le_of_ble_eq_true rfl, Nat.le_of_ble_eq_true rfl⟩) (hE.1 0 (by decide)) (cq_kiln E _) rfl rfl hl.1 [] rfl (Nat.le_of_ble_eq_true rfl) dL_law_706 hf (fun H locs hH => ?_)
  refine lv_aload_n hx hb dL_law_709 rfl (lv_at hl 2 rfl) ?_
  refine g_vi (As := []) F hH (c_X5_clearStages l E hE (st v 2 2 0)) (cwV 0 hts gL_law_X5_clearStages rfl rfl rfl (by decide +kernel) ⟨Nat.le_of_ble_eq_true rfl, Nat.le_of_ble_eq_true rfl⟩) (hE.2.1 15 (by decide) (by decide)) (cq_mo E _) rfl rfl hl.1 [.int _] rfl (Nat.le_of_ble_eq_true rfl) dL_law_710 hf (fun H locs hH => ?_)
  have o := o_cl hI
  refine lv_icmp_eq (tgt := 820) hx hb dL_law_713 (by decide) (fun _ => ?_) (fun q => absurd o.1.symm q)
  exact W.widen (Nat.le_add_right cells 9) (Nat.le_add_right slots 66) (K E _ _ H locs F hH o.2 rfl rfl rfl)
set_option maxHeartbeats 4000000 in
set_option maxRecDepth 100000 in
theorem k_currentStage {p : Program} {l : Launch} {e : Env} {s : State} {m : MethodId} {below : List Frame} {meth : Method} {c : Code} {b L : Nat} {xs : Nat → Int32} {it : Nat} {E : Ev} {ns : Nat} {v : Mem} {H : Heap} {locs : List Loc} {ls : Array Slot} {cells slots : Nat} {Q : State → Prop} (C : LC p s m c b L xs it E ns v H locs ls cells slots) (K : LK p l e s m below meth c b E ls cells slots Q) : W p l e room_1 s m #[Value.ref b] below meth c H locs cells slots Q (F0 m 718 ls []) := by
  obtain ⟨F, hX, hbl, hbA, hL, hit, hH, hI, hl, hcs⟩ := C
  obtain ⟨hx, hb, hml, hown, hts⟩ := id F.1
  have hE := hI.1
  have h01 : eNb E 0 = eNb E 1 := hI.2.2.1.1.trans hI.2.2.1.2.1.symm
  have h12 : eNb E 1 = eNb E 2 := hI.2.2.1.2.1.trans hI.2.2.1.2.2.1.symm
  have hf : cells + 0 ≤ room_1.cells ∧ slots + 0 ≤ room_1.slots := ⟨Nat.le_trans (Nat.le_add_right cells 9) hcs.1, Nat.le_trans (Nat.le_add_right slots 66) hcs.2⟩
  refine lv_aload_n hx hb dL_law_718 rfl (lv_at hl 1 rfl) ?_
  refine g_vi (As := []) F hH (c_X4_currentStage l E hE v ns (q_ns hI).1 hI.2.2.2.1) (cwV 0 hts gL_law_X4_currentStage rfl rfl rfl (by decide +kernel) ⟨Nat.le_of_ble_eq_true rfl, Nat.le_of_ble_eq_true rfl⟩) (hE.1 0 (by decide)) (cq_kiln E _) rfl rfl hl.1 [] rfl (Nat.le_of_ble_eq_true rfl) dL_law_719 hf (fun H locs hH => ?_)
  refine lv_aload_n hx hb dL_law_722 rfl (lv_at hl 2 rfl) ?_
  refine g_vi (As := []) F hH (c_X5_currentStage l E hE v ns (q_ns hI).2 hI.2.2.2.1) (cwV 0 hts gL_law_X5_currentStage rfl rfl rfl (by decide +kernel) ⟨Nat.le_of_ble_eq_true rfl, Nat.le_of_ble_eq_true rfl⟩) (hE.2.1 15 (by decide) (by decide)) (cq_mo E _) rfl rfl hl.1 [.int _] rfl (Nat.le_of_ble_eq_true rfl) dL_law_723 hf (fun H locs hH => ?_)
  refine lv_icmp_eq (tgt := 820) hx hb dL_law_726 (by decide) (fun _ => ?_) (fun q => absurd (q_cs hI).symm q)
  exact W.widen (Nat.le_add_right cells 9) (Nat.le_add_right slots 66) (K E ns v H locs F hH hI rfl rfl rfl)
set_option maxHeartbeats 4000000 in
set_option maxRecDepth 100000 in
theorem k_runSchedule {p : Program} {l : Launch} {e : Env} {s : State} {m : MethodId} {below : List Frame} {meth : Method} {c : Code} {b L : Nat} {xs : Nat → Int32} {it : Nat} {E : Ev} {ns : Nat} {v : Mem} {H : Heap} {locs : List Loc} {ls : Array Slot} {cells slots : Nat} {Q : State → Prop} (C : LC p s m c b L xs it E ns v H locs ls cells slots) (K : LK p l e s m below meth c b E ls cells slots Q) : W p l e room_1 s m #[Value.ref b] below meth c H locs cells slots Q (F0 m 731 ls []) := by
  obtain ⟨F, hX, hbl, hbA, hL, hit, hH, hI, hl, hcs⟩ := C
  obtain ⟨hx, hb, hml, hown, hts⟩ := id F.1
  have hE := hI.1
  have h01 : eNb E 0 = eNb E 1 := hI.2.2.1.1.trans hI.2.2.1.2.1.symm
  have h12 : eNb E 1 = eNb E 2 := hI.2.2.1.2.1.trans hI.2.2.1.2.2.1.symm
  have hf : cells + 0 ≤ room_1.cells ∧ slots + 0 ≤ room_1.slots := ⟨Nat.le_trans (Nat.le_add_right cells 9) hcs.1, Nat.le_trans (Nat.le_add_right slots 66) hcs.2⟩
  refine lv_aload_n hx hb dL_law_731 rfl (lv_at hl 1 rfl) ?_
  refine ld_s (A := eA E) (lv := []) hx hb hX hbl hbA hH.2 (lv_at hl 0 rfl) (lv_at hl 3 rfl) hL hit 1 (by decide) (by decide) dL_law_732 dL_law_733 dL_law_734 dL_law_735 dL_law_736 ?_
  refine ld_s (A := eA E) (lv := []) hx hb hX hbl hbA hH.2 (lv_at hl 0 rfl) (lv_at hl 3 rfl) hL hit 2 (by decide) (by decide) dL_law_737 dL_law_738 dL_law_739 dL_law_740 dL_law_741 ?_
  refine g_vi (As := [.int (xs (4 * it + 1)), .int (xs (4 * it + 2))]) F hH (c_X4_runSchedule l E hE v (xs (4 * it + 1)) (xs (4 * it + 2)) ns (q_ns hI).1 hI.2.2.2.1) (cwV 2 hts gL_law_X4_runSchedule rfl rfl rfl (by decide +kernel) ⟨Nat.le_of_ble_eq_true rfl, Nat.le_of_ble_eq_true rfl⟩) (hE.1 0 (by decide)) (cq_kiln E _) rfl rfl hl.1 [] rfl (Nat.le_of_ble_eq_true rfl) dL_law_742 hf (fun H locs hH => ?_)
  refine lv_aload_n hx hb dL_law_745 rfl (lv_at hl 2 rfl) ?_
  refine ld_s (A := eA E) (lv := []) hx hb hX hbl hbA hH.2 (lv_at hl 0 rfl) (lv_at hl 3 rfl) hL hit 1 (by decide) (by decide) dL_law_746 dL_law_747 dL_law_748 dL_law_749 dL_law_750 ?_
  refine ld_s (A := eA E) (lv := []) hx hb hX hbl hbA hH.2 (lv_at hl 0 rfl) (lv_at hl 3 rfl) hL hit 2 (by decide) (by decide) dL_law_751 dL_law_752 dL_law_753 dL_law_754 dL_law_755 ?_
  refine g_vi (As := [.int (xs (4 * it + 1)), .int (xs (4 * it + 2))]) F hH (c_X5_runSchedule l E hE (ksdm E v ns (xs (4 * it + 1)) (xs (4 * it + 2))) (xs (4 * it + 1)) (xs (4 * it + 2)) ns (by rw [ksdm_m E v ns _ _ (show mdl 15 by decide)]; exact (q_ns hI).2) hI.2.2.2.1 (cap_y (fun q hq => ksdm_m E v ns _ _ hq) hI)) (cwV 2 hts gL_law_X5_runSchedule rfl rfl rfl (by decide +kernel) ⟨Nat.le_of_ble_eq_true rfl, Nat.le_of_ble_eq_true rfl⟩) (hE.2.1 15 (by decide) (by decide)) (cq_mo E _) rfl rfl hl.1 [.int _] rfl (Nat.le_of_ble_eq_true rfl) dL_law_756 hf (fun H locs hH => ?_)
  have o := o_run hI (xs (4 * it + 1)) (xs (4 * it + 2))
  refine lv_icmp_eq (tgt := 820) hx hb dL_law_759 (by decide) (fun _ => ?_) (fun q => absurd o.1.symm q)
  exact W.widen (Nat.le_add_right cells 9) (Nat.le_add_right slots 66) (K E _ _ H locs F hH o.2 rfl rfl rfl)
set_option maxHeartbeats 4000000 in
set_option maxRecDepth 100000 in
theorem k_plannedHours {p : Program} {l : Launch} {e : Env} {s : State} {m : MethodId} {below : List Frame} {meth : Method} {c : Code} {b L : Nat} {xs : Nat → Int32} {it : Nat} {E : Ev} {ns : Nat} {v : Mem} {H : Heap} {locs : List Loc} {ls : Array Slot} {cells slots : Nat} {Q : State → Prop} (C : LC p s m c b L xs it E ns v H locs ls cells slots) (K : LK p l e s m below meth c b E ls cells slots Q) : W p l e room_1 s m #[Value.ref b] below meth c H locs cells slots Q (F0 m 764 ls []) := by
  obtain ⟨F, hX, hbl, hbA, hL, hit, hH, hI, hl, hcs⟩ := C
  obtain ⟨hx, hb, hml, hown, hts⟩ := id F.1
  have hE := hI.1
  have h01 : eNb E 0 = eNb E 1 := hI.2.2.1.1.trans hI.2.2.1.2.1.symm
  have h12 : eNb E 1 = eNb E 2 := hI.2.2.1.2.1.trans hI.2.2.1.2.2.1.symm
  have hf : cells + 0 ≤ room_1.cells ∧ slots + 0 ≤ room_1.slots := ⟨Nat.le_trans (Nat.le_add_right cells 9) hcs.1, Nat.le_trans (Nat.le_add_right slots 66) hcs.2⟩
  refine lv_aload_n hx hb dL_law_764 rfl (lv_at hl 1 rfl) ?_
  refine ld_s (A := eA E) (lv := []) hx hb hX hbl hbA hH.2 (lv_at hl 0 rfl) (lv_at hl 3 rfl) hL hit 1 (by decide) (by decide) dL_law_765 dL_law_766 dL_law_767 dL_law_768 dL_law_769 ?_
  refine g_vi (As := [.int (xs (4 * it + 1))]) F hH (c_X4_plannedHours l E hE v (xs (4 * it + 1)) h01 h12 hI.2.2.2.2.2.2.2.2.1) (cwV 1 hts gL_law_X4_plannedHours rfl rfl rfl (by decide +kernel) ⟨Nat.le_of_ble_eq_true rfl, Nat.le_of_ble_eq_true rfl⟩) (hE.1 0 (by decide)) (cq_kiln E _) rfl rfl hl.1 [] rfl (Nat.le_of_ble_eq_true rfl) dL_law_770 hf (fun H locs hH => ?_)
  refine lv_aload_n hx hb dL_law_773 rfl (lv_at hl 2 rfl) ?_
  refine ld_s (A := eA E) (lv := []) hx hb hX hbl hbA hH.2 (lv_at hl 0 rfl) (lv_at hl 3 rfl) hL hit 1 (by decide) (by decide) dL_law_774 dL_law_775 dL_law_776 dL_law_777 dL_law_778 ?_
  refine g_vi (As := [.int (xs (4 * it + 1))]) F hH (c_X5_plannedHours l E hE (kphm E v (xs (4 * it + 1))) (xs (4 * it + 1)) (cap_y (fun q hq => kphm_m hE v _ hq) hI) (isB_y (fun q hq => kphm_m hE v _ hq) hI)) (cwV 1 hts gL_law_X5_plannedHours rfl rfl rfl (by decide +kernel) ⟨Nat.le_of_ble_eq_true rfl, Nat.le_of_ble_eq_true rfl⟩) (hE.2.1 15 (by decide) (by decide)) (cq_mo E _) rfl rfl hl.1 [.int _] rfl (Nat.le_of_ble_eq_true rfl) dL_law_779 hf (fun H locs hH => ?_)
  have o := o_ph hI (xs (4 * it + 1))
  refine lv_icmp_eq (tgt := 820) hx hb dL_law_782 (by decide) (fun _ => ?_) (fun q => absurd o.1.symm q)
  exact W.widen (Nat.le_add_right cells 9) (Nat.le_add_right slots 66) (K E _ _ H locs F hH o.2 rfl rfl rfl)
set_option maxHeartbeats 4000000 in
set_option maxRecDepth 100000 in
theorem k_plannedInlet {p : Program} {l : Launch} {e : Env} {s : State} {m : MethodId} {below : List Frame} {meth : Method} {c : Code} {b L : Nat} {xs : Nat → Int32} {it : Nat} {E : Ev} {ns : Nat} {v : Mem} {H : Heap} {locs : List Loc} {ls : Array Slot} {cells slots : Nat} {Q : State → Prop} (C : LC p s m c b L xs it E ns v H locs ls cells slots) (K : LK p l e s m below meth c b E ls cells slots Q) : W p l e room_1 s m #[Value.ref b] below meth c H locs cells slots Q (F0 m 787 ls []) := by
  obtain ⟨F, hX, hbl, hbA, hL, hit, hH, hI, hl, hcs⟩ := C
  obtain ⟨hx, hb, hml, hown, hts⟩ := id F.1
  have hE := hI.1
  have h01 : eNb E 0 = eNb E 1 := hI.2.2.1.1.trans hI.2.2.1.2.1.symm
  have h12 : eNb E 1 = eNb E 2 := hI.2.2.1.2.1.trans hI.2.2.1.2.2.1.symm
  have hf : cells + 0 ≤ room_1.cells ∧ slots + 0 ≤ room_1.slots := ⟨Nat.le_trans (Nat.le_add_right cells 9) hcs.1, Nat.le_trans (Nat.le_add_right slots 66) hcs.2⟩
  refine lv_aload_n hx hb dL_law_787 rfl (lv_at hl 1 rfl) ?_
  refine ld_s (A := eA E) (lv := []) hx hb hX hbl hbA hH.2 (lv_at hl 0 rfl) (lv_at hl 3 rfl) hL hit 1 (by decide) (by decide) dL_law_788 dL_law_789 dL_law_790 dL_law_791 dL_law_792 ?_
  refine ld_s (A := eA E) (lv := []) hx hb hX hbl hbA hH.2 (lv_at hl 0 rfl) (lv_at hl 3 rfl) hL hit 2 (by decide) (by decide) dL_law_793 dL_law_794 dL_law_795 dL_law_796 dL_law_797 ?_
  refine g_vi (As := [.int (xs (4 * it + 1)), .int (xs (4 * it + 2))]) F hH (c_X4_plannedInlet l E hE v (xs (4 * it + 1)) (xs (4 * it + 2)) h01 h12 hI.2.2.2.2.2.2.2.2.1) (cwV 2 hts gL_law_X4_plannedInlet rfl rfl rfl (by decide +kernel) ⟨Nat.le_of_ble_eq_true rfl, Nat.le_of_ble_eq_true rfl⟩) (hE.1 0 (by decide)) (cq_kiln E _) rfl rfl hl.1 [] rfl (Nat.le_of_ble_eq_true rfl) dL_law_798 hf (fun H locs hH => ?_)
  refine lv_aload_n hx hb dL_law_801 rfl (lv_at hl 2 rfl) ?_
  refine ld_s (A := eA E) (lv := []) hx hb hX hbl hbA hH.2 (lv_at hl 0 rfl) (lv_at hl 3 rfl) hL hit 1 (by decide) (by decide) dL_law_802 dL_law_803 dL_law_804 dL_law_805 dL_law_806 ?_
  refine ld_s (A := eA E) (lv := []) hx hb hX hbl hbA hH.2 (lv_at hl 0 rfl) (lv_at hl 3 rfl) hL hit 2 (by decide) (by decide) dL_law_807 dL_law_808 dL_law_809 dL_law_810 dL_law_811 ?_
  refine g_vi (As := [.int (xs (4 * it + 1)), .int (xs (4 * it + 2))]) F hH (c_X5_plannedInlet l E hE (kpim E v (xs (4 * it + 1)) (xs (4 * it + 2))) (xs (4 * it + 1)) (xs (4 * it + 2)) (cap_y (fun q hq => kpim_m hE v _ _ hq) hI) (isB_y (fun q hq => kpim_m hE v _ _ hq) hI)) (cwV 2 hts gL_law_X5_plannedInlet rfl rfl rfl (by decide +kernel) ⟨Nat.le_of_ble_eq_true rfl, Nat.le_of_ble_eq_true rfl⟩) (hE.2.1 15 (by decide) (by decide)) (cq_mo E _) rfl rfl hl.1 [.int _] rfl (Nat.le_of_ble_eq_true rfl) dL_law_812 hf (fun H locs hH => ?_)
  have o := o_pi hI (xs (4 * it + 1)) (xs (4 * it + 2))
  refine lv_icmp_eq (tgt := 820) hx hb dL_law_815 (by decide) (fun _ => ?_) (fun q => absurd o.1.symm q)
  exact W.widen (Nat.le_add_right cells 9) (Nat.le_add_right slots 66) (K E _ _ H locs F hH o.2 rfl rfl rfl)
set_option maxHeartbeats 4000000 in
set_option maxRecDepth 100000 in
theorem k_addBoard {p : Program} {l : Launch} {e : Env} {s : State} {m : MethodId} {below : List Frame} {meth : Method} {c : Code} {b L : Nat} {xs : Nat → Int32} {it : Nat} {E : Ev} {ns : Nat} {v : Mem} {H : Heap} {locs : List Loc} {ls : Array Slot} {cells slots : Nat} {Q : State → Prop} (C : LC p s m c b L xs it E ns v H locs ls cells slots) (K : LK p l e s m below meth c b E ls cells slots Q) : W p l e room_1 s m #[Value.ref b] below meth c H locs cells slots Q (F0 m 160 ls []) := by
  obtain ⟨F, hX, hbl, hbA, hL, hit, hH, hI, hl, hcs⟩ := C
  obtain ⟨hx, hb, hml, hown, hts⟩ := id F.1
  have hE := hI.1
  have h01 : eNb E 0 = eNb E 1 := hI.2.2.1.1.trans hI.2.2.1.2.1.symm
  have h12 : eNb E 1 = eNb E 2 := hI.2.2.1.2.1.trans hI.2.2.1.2.2.1.symm
  have h40 : eNb E 4 ≤ eNb E 0 := Nat.le_of_eq (hI.2.2.1.2.2.2.trans hI.2.2.1.1.symm)
  refine lv_aload_n hx hb dL_law_160 rfl (lv_at hl 1 rfl) ?_
  refine ld_s (A := eA E) (lv := []) hx hb hX hbl hbA hH.2 (lv_at hl 0 rfl) (lv_at hl 3 rfl) hL hit 1 (by decide) (by decide) dL_law_161 dL_law_162 dL_law_163 dL_law_164 dL_law_165 ?_
  refine ld_s (A := eA E) (lv := []) hx hb hX hbl hbA hH.2 (lv_at hl 0 rfl) (lv_at hl 3 rfl) hL hit 2 (by decide) (by decide) dL_law_166 dL_law_167 dL_law_168 dL_law_169 dL_law_170 ?_
  refine r_vi (f := cel E v) (As := [.int (xs (4 * it + 1)), .int (xs (4 * it + 2))]) F hH (c_X4_addBoard l E hE hI.2.1 v (xs (4 * it + 1)) (xs (4 * it + 2)) h01 h12 h40) (cwV 2 hts gL_law_X4_addBoard rfl rfl rfl (by decide +kernel) ⟨Nat.le_of_ble_eq_true rfl, Nat.le_of_ble_eq_true rfl⟩) (hE.1 0 (by decide)) rfl (cq_kiln E _) rfl rfl hl.1 [] rfl (Nat.le_of_ble_eq_true rfl) dL_law_171 hcs (fun r u t H1 locs1 ht hw hB hS => ?_)
  obtain ⟨e1, e2, e3, eD1, eA1, eZ1, eI1, eO1, a0, a15⟩ := o_add1 hI hw
  have F1 : LFX p m c s b u.1 := ⟨F.1, F.2.same eD1 eA1 eZ1 eI1 eO1⟩
  have hH1 : HS u.1 s.heap u.2 H1 locs1 := ⟨by rw [← ht]; exact hB, by rw [eA1]; exact hS⟩
  have hM := c_X5_addBoard l u.1 e1 u.2 (xs (4 * it + 1)) (xs (4 * it + 2)) e2 e3
  rw [a15] at hM
  refine lv_aload_n hx hb dL_law_174 rfl (lv_at hl 2 rfl) ?_
  refine ld_s (A := eA E) (lv := []) hx hb hX hbl hbA hS (lv_at hl 0 rfl) (lv_at hl 3 rfl) hL hit 1 (by decide) (by decide) dL_law_175 dL_law_176 dL_law_177 dL_law_178 dL_law_179 ?_
  refine ld_s (A := eA E) (lv := []) hx hb hX hbl hbA hS (lv_at hl 0 rfl) (lv_at hl 3 rfl) hL hit 2 (by decide) (by decide) dL_law_180 dL_law_181 dL_law_182 dL_law_183 dL_law_184 ?_
  refine r_vi (f := cel u.1 u.2) (As := [.int (xs (4 * it + 1)), .int (xs (4 * it + 2))]) F1 hH1 hM (cwV 2 hts gL_law_X5_addBoard rfl rfl rfl (by decide +kernel) ⟨Nat.le_of_ble_eq_true rfl, Nat.le_of_ble_eq_true rfl⟩) (e1.2.1 15 (by decide) (by decide)) a15 (cq_mo u.1 _) rfl rfl hl.1 [.int r] rfl (Nat.le_of_ble_eq_true rfl) dL_law_185 hcs (fun r2 u2 t2 H2 locs2 ht2 hw2 hB2 hS2 => ?_)
  obtain ⟨f1, hI2, eD2, eA2, eZ2, eI2, eO2, b0, b15⟩ := o_add2 hI hw hw2
  have F2 : LFX p m c s b u2.1 := ⟨F.1, F.2.same eD2 eA2 eZ2 eI2 eO2⟩
  have hH2 : HS u2.1 s.heap u2.2 H2 locs2 := ⟨by rw [← ht2]; exact hB2, by rw [eA2, ← eA1]; exact hS2⟩
  refine lv_icmp_eq (tgt := 820) hx hb dL_law_188 (by decide) (fun _ => ?_) (fun q => absurd f1.symm q)
  exact K u2.1 ns u2.2 H2 locs2 F2 hH2 hI2 eA2 b0 b15
